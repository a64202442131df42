section
-- ===== PART A: goes FIRST, ahead of the names: the tables' words, and 'selects' of the private methods out of them =====
/-- a private method of a class that the tables say can be made, by its rows of tables_1 -/
def lw_okq (q : MethodName × Nat) : Prop := (q.1.cls ≠ "java/lang/invoke/MethodHandle" ∧ q.1.cls ≠ "java/lang/invoke/VarHandle") ∧ Cond.instantiable q.1.cls q.2 ∈ tables_1 ∧ Cond.privateMethod q.1 ∈ tables_1 ∧ Cond.instanceMethod q.1 ∈ tables_1
theorem lw_p0 : lw_okq (⟨"DrillArchive$TextReader", "readLayers", "()Z"⟩, 9) := ⟨⟨by decide +kernel, by decide +kernel⟩, List.mem_of_getElem? (i := 233) (by decide +kernel), List.mem_of_getElem? (i := 271) (by decide +kernel), List.mem_of_getElem? (i := 272) (by decide +kernel)⟩
theorem lw_p1 : lw_okq (⟨"DrillArchive$TextReader", "passes", "(Ljava/lang/String;)Z"⟩, 9) := ⟨⟨by decide +kernel, by decide +kernel⟩, List.mem_of_getElem? (i := 233) (by decide +kernel), List.mem_of_getElem? (i := 276) (by decide +kernel), List.mem_of_getElem? (i := 277) (by decide +kernel)⟩
theorem lw_p2 : lw_okq (⟨"DrillArchive$TextReader", "readLayerLine", "()Z"⟩, 9) := ⟨⟨by decide +kernel, by decide +kernel⟩, List.mem_of_getElem? (i := 233) (by decide +kernel), List.mem_of_getElem? (i := 332) (by decide +kernel), List.mem_of_getElem? (i := 333) (by decide +kernel)⟩
theorem lw_p3 : lw_okq (⟨"DrillArchive$TextReader", "readPart", "(CZ)Z"⟩, 9) := ⟨⟨by decide +kernel, by decide +kernel⟩, List.mem_of_getElem? (i := 233) (by decide +kernel), List.mem_of_getElem? (i := 336) (by decide +kernel), List.mem_of_getElem? (i := 337) (by decide +kernel)⟩
theorem lw_p4 : lw_okq (⟨"DrillArchive$TextReader", "can", "(ZI)Z"⟩, 9) := ⟨⟨by decide +kernel, by decide +kernel⟩, List.mem_of_getElem? (i := 233) (by decide +kernel), List.mem_of_getElem? (i := 347) (by decide +kernel), List.mem_of_getElem? (i := 348) (by decide +kernel)⟩
theorem lw_p5 : lw_okq (⟨"DrillArchive$TextReader", "readTools", "()Z"⟩, 9) := ⟨⟨by decide +kernel, by decide +kernel⟩, List.mem_of_getElem? (i := 233) (by decide +kernel), List.mem_of_getElem? (i := 351) (by decide +kernel), List.mem_of_getElem? (i := 352) (by decide +kernel)⟩
theorem lw_p6 : lw_okq (⟨"DrillArchive$TextReader", "readToolLine", "()Z"⟩, 9) := ⟨⟨by decide +kernel, by decide +kernel⟩, List.mem_of_getElem? (i := 233) (by decide +kernel), List.mem_of_getElem? (i := 355) (by decide +kernel), List.mem_of_getElem? (i := 356) (by decide +kernel)⟩
theorem lw_p7 : lw_okq (⟨"DrillArchive$TextReader", "readHits", "()Z"⟩, 9) := ⟨⟨by decide +kernel, by decide +kernel⟩, List.mem_of_getElem? (i := 233) (by decide +kernel), List.mem_of_getElem? (i := 405) (by decide +kernel), List.mem_of_getElem? (i := 406) (by decide +kernel)⟩
theorem lw_p8 : lw_okq (⟨"DrillArchive$TextReader", "readHitLine", "()Z"⟩, 9) := ⟨⟨by decide +kernel, by decide +kernel⟩, List.mem_of_getElem? (i := 233) (by decide +kernel), List.mem_of_getElem? (i := 409) (by decide +kernel), List.mem_of_getElem? (i := 410) (by decide +kernel)⟩
theorem lw_p9 : lw_okq (⟨"DrillArchive$TextReader", "readPlace", "()Z"⟩, 9) := ⟨⟨by decide +kernel, by decide +kernel⟩, List.mem_of_getElem? (i := 233) (by decide +kernel), List.mem_of_getElem? (i := 413) (by decide +kernel), List.mem_of_getElem? (i := 414) (by decide +kernel)⟩
theorem lw_p10 : lw_okq (⟨"DrillArchive$TextReader", "readChoiceLine", "()Z"⟩, 9) := ⟨⟨by decide +kernel, by decide +kernel⟩, List.mem_of_getElem? (i := 233) (by decide +kernel), List.mem_of_getElem? (i := 438) (by decide +kernel), List.mem_of_getElem? (i := 439) (by decide +kernel)⟩
theorem lw_p11 : lw_okq (⟨"DrillArchive$FileSet", "takeFile", "(LDrillArchive$Row;I)I"⟩, 2) := ⟨⟨by decide +kernel, by decide +kernel⟩, List.mem_of_getElem? (i := 170) (by decide +kernel), List.mem_of_getElem? (i := 468) (by decide +kernel), List.mem_of_getElem? (i := 469) (by decide +kernel)⟩
theorem lw_p12 : lw_okq (⟨"DrillArchive$TextWriter", "writeHead", "(LDrillArchive$Drawing;)V"⟩, 5) := ⟨⟨by decide +kernel, by decide +kernel⟩, List.mem_of_getElem? (i := 99) (by decide +kernel), List.mem_of_getElem? (i := 531) (by decide +kernel), List.mem_of_getElem? (i := 532) (by decide +kernel)⟩
theorem lw_p13 : lw_okq (⟨"DrillArchive$Planner", "gather", "(LDrillArchive$Drawing;LDrillArchive$Tool;)V"⟩, 7) := ⟨⟨by decide +kernel, by decide +kernel⟩, List.mem_of_getElem? (i := 33) (by decide +kernel), List.mem_of_getElem? (i := 565) (by decide +kernel), List.mem_of_getElem? (i := 566) (by decide +kernel)⟩
theorem lw_p14 : lw_okq (⟨"DrillArchive$Planner", "measureWays", "()V"⟩, 7) := ⟨⟨by decide +kernel, by decide +kernel⟩, List.mem_of_getElem? (i := 33) (by decide +kernel), List.mem_of_getElem? (i := 574) (by decide +kernel), List.mem_of_getElem? (i := 575) (by decide +kernel)⟩
theorem lw_p15 : lw_okq (⟨"DrillArchive$Planner", "measureRest", "()V"⟩, 7) := ⟨⟨by decide +kernel, by decide +kernel⟩, List.mem_of_getElem? (i := 33) (by decide +kernel), List.mem_of_getElem? (i := 586) (by decide +kernel), List.mem_of_getElem? (i := 587) (by decide +kernel)⟩
def lw_privs_1 : List (MethodName × Nat) := [(⟨"DrillArchive$TextReader", "readLayers", "()Z"⟩, 9), (⟨"DrillArchive$TextReader", "passes", "(Ljava/lang/String;)Z"⟩, 9), (⟨"DrillArchive$TextReader", "readLayerLine", "()Z"⟩, 9), (⟨"DrillArchive$TextReader", "readPart", "(CZ)Z"⟩, 9), (⟨"DrillArchive$TextReader", "can", "(ZI)Z"⟩, 9), (⟨"DrillArchive$TextReader", "readTools", "()Z"⟩, 9), (⟨"DrillArchive$TextReader", "readToolLine", "()Z"⟩, 9), (⟨"DrillArchive$TextReader", "readHits", "()Z"⟩, 9), (⟨"DrillArchive$TextReader", "readHitLine", "()Z"⟩, 9), (⟨"DrillArchive$TextReader", "readPlace", "()Z"⟩, 9), (⟨"DrillArchive$TextReader", "readChoiceLine", "()Z"⟩, 9), (⟨"DrillArchive$FileSet", "takeFile", "(LDrillArchive$Row;I)I"⟩, 2), (⟨"DrillArchive$TextWriter", "writeHead", "(LDrillArchive$Drawing;)V"⟩, 5), (⟨"DrillArchive$Planner", "gather", "(LDrillArchive$Drawing;LDrillArchive$Tool;)V"⟩, 7), (⟨"DrillArchive$Planner", "measureWays", "()V"⟩, 7), (⟨"DrillArchive$Planner", "measureRest", "()V"⟩, 7)]
theorem lw_r1 : ∀ q ∈ lw_privs_1, lw_okq q := List.forall_mem_cons.mpr ⟨lw_p0, List.forall_mem_cons.mpr ⟨lw_p1, List.forall_mem_cons.mpr ⟨lw_p2, List.forall_mem_cons.mpr ⟨lw_p3, List.forall_mem_cons.mpr ⟨lw_p4, List.forall_mem_cons.mpr ⟨lw_p5, List.forall_mem_cons.mpr ⟨lw_p6, List.forall_mem_cons.mpr ⟨lw_p7, List.forall_mem_cons.mpr ⟨lw_p8, List.forall_mem_cons.mpr ⟨lw_p9, List.forall_mem_cons.mpr ⟨lw_p10, List.forall_mem_cons.mpr ⟨lw_p11, List.forall_mem_cons.mpr ⟨lw_p12, List.forall_mem_cons.mpr ⟨lw_p13, List.forall_mem_cons.mpr ⟨lw_p14, List.forall_mem_cons.mpr ⟨lw_p15, fun _ h => absurd h List.not_mem_nil⟩⟩⟩⟩⟩⟩⟩⟩⟩⟩⟩⟩⟩⟩⟩⟩
theorem lw_p16 : lw_okq (⟨"DrillArchive$Planner", "bestNext", "(II)I"⟩, 7) := ⟨⟨by decide +kernel, by decide +kernel⟩, List.mem_of_getElem? (i := 33) (by decide +kernel), List.mem_of_getElem? (i := 590) (by decide +kernel), List.mem_of_getElem? (i := 591) (by decide +kernel)⟩
theorem lw_p17 : lw_okq (⟨"DrillArchive$Planner", "planLeast", "(LDrillArchive$Tool;)V"⟩, 7) := ⟨⟨by decide +kernel, by decide +kernel⟩, List.mem_of_getElem? (i := 33) (by decide +kernel), List.mem_of_getElem? (i := 594) (by decide +kernel), List.mem_of_getElem? (i := 595) (by decide +kernel)⟩
theorem lw_p18 : lw_okq (⟨"DrillArchive$Planner", "planNearest", "(LDrillArchive$Tool;)V"⟩, 7) := ⟨⟨by decide +kernel, by decide +kernel⟩, List.mem_of_getElem? (i := 33) (by decide +kernel), List.mem_of_getElem? (i := 602) (by decide +kernel), List.mem_of_getElem? (i := 603) (by decide +kernel)⟩
theorem lw_p19 : lw_okq (⟨"DrillArchive$Planner", "nearest", "(LDrillArchive$Hit;)I"⟩, 7) := ⟨⟨by decide +kernel, by decide +kernel⟩, List.mem_of_getElem? (i := 33) (by decide +kernel), List.mem_of_getElem? (i := 606) (by decide +kernel), List.mem_of_getElem? (i := 607) (by decide +kernel)⟩
theorem lw_p20 : lw_okq (⟨"DrillArchive$TextWriter", "writeHits", "(LDrillArchive$Drawing;LDrillArchive$Tool;I)V"⟩, 5) := ⟨⟨by decide +kernel, by decide +kernel⟩, List.mem_of_getElem? (i := 99) (by decide +kernel), List.mem_of_getElem? (i := 610) (by decide +kernel), List.mem_of_getElem? (i := 611) (by decide +kernel)⟩
theorem lw_p21 : lw_okq (⟨"DrillArchive$TextWriter", "writeHit", "(LDrillArchive$Hit;)V"⟩, 5) := ⟨⟨by decide +kernel, by decide +kernel⟩, List.mem_of_getElem? (i := 99) (by decide +kernel), List.mem_of_getElem? (i := 616) (by decide +kernel), List.mem_of_getElem? (i := 617) (by decide +kernel)⟩
theorem lw_p22 : lw_okq (⟨"java/lang/Throwable", "fillInStackTrace", "(I)Ljava/lang/Throwable;"⟩, 6) := ⟨⟨by decide +kernel, by decide +kernel⟩, List.mem_of_getElem? (i := 682) (by decide +kernel), List.mem_of_getElem? (i := 680) (by decide +kernel), List.mem_of_getElem? (i := 681) (by decide +kernel)⟩
theorem lw_p23 : lw_okq (⟨"DrillArchive", "knownTool", "(I)LDrillArchive$Tool;"⟩, 6) := ⟨⟨by decide +kernel, by decide +kernel⟩, List.mem_of_getElem? (i := 25) (by decide +kernel), List.mem_of_getElem? (i := 720) (by decide +kernel), List.mem_of_getElem? (i := 721) (by decide +kernel)⟩
theorem lw_p24 : lw_okq (⟨"DrillArchive", "knownFile", "(I)LDrillArchive$StoredFile;"⟩, 6) := ⟨⟨by decide +kernel, by decide +kernel⟩, List.mem_of_getElem? (i := 25) (by decide +kernel), List.mem_of_getElem? (i := 818) (by decide +kernel), List.mem_of_getElem? (i := 819) (by decide +kernel)⟩
theorem lw_p25 : lw_okq (⟨"DrillArchiveModel", "addTool", "(IJZ)I"⟩, 39) := ⟨⟨by decide +kernel, by decide +kernel⟩, List.mem_of_getElem? (i := 854) (by decide +kernel), List.mem_of_getElem? (i := 995) (by decide +kernel), List.mem_of_getElem? (i := 996) (by decide +kernel)⟩
theorem lw_p26 : lw_okq (⟨"DrillArchiveModel", "isTool", "(I)Z"⟩, 39) := ⟨⟨by decide +kernel, by decide +kernel⟩, List.mem_of_getElem? (i := 854) (by decide +kernel), List.mem_of_getElem? (i := 1003) (by decide +kernel), List.mem_of_getElem? (i := 1004) (by decide +kernel)⟩
theorem lw_p27 : lw_okq (⟨"DrillArchiveModel", "addHit", "(IIJJJJIIZ)I"⟩, 39) := ⟨⟨by decide +kernel, by decide +kernel⟩, List.mem_of_getElem? (i := 854) (by decide +kernel), List.mem_of_getElem? (i := 1016) (by decide +kernel), List.mem_of_getElem? (i := 1017) (by decide +kernel)⟩
theorem lw_p28 : lw_okq (⟨"DrillArchiveModel", "findOrder", "(I)V"⟩, 39) := ⟨⟨by decide +kernel, by decide +kernel⟩, List.mem_of_getElem? (i := 854) (by decide +kernel), List.mem_of_getElem? (i := 1032) (by decide +kernel), List.mem_of_getElem? (i := 1033) (by decide +kernel)⟩
theorem lw_p29 : lw_okq (⟨"DrillArchiveModel", "collect", "(I)V"⟩, 39) := ⟨⟨by decide +kernel, by decide +kernel⟩, List.mem_of_getElem? (i := 854) (by decide +kernel), List.mem_of_getElem? (i := 1036) (by decide +kernel), List.mem_of_getElem? (i := 1037) (by decide +kernel)⟩
theorem lw_p30 : lw_okq (⟨"DrillArchiveModel", "orderNearest", "()V"⟩, 39) := ⟨⟨by decide +kernel, by decide +kernel⟩, List.mem_of_getElem? (i := 854) (by decide +kernel), List.mem_of_getElem? (i := 1040) (by decide +kernel), List.mem_of_getElem? (i := 1041) (by decide +kernel)⟩
theorem lw_p31 : lw_okq (⟨"DrillArchiveModel", "way", "(II)J"⟩, 39) := ⟨⟨by decide +kernel, by decide +kernel⟩, List.mem_of_getElem? (i := 854) (by decide +kernel), List.mem_of_getElem? (i := 1044) (by decide +kernel), List.mem_of_getElem? (i := 1045) (by decide +kernel)⟩
def lw_privs_2 : List (MethodName × Nat) := [(⟨"DrillArchive$Planner", "bestNext", "(II)I"⟩, 7), (⟨"DrillArchive$Planner", "planLeast", "(LDrillArchive$Tool;)V"⟩, 7), (⟨"DrillArchive$Planner", "planNearest", "(LDrillArchive$Tool;)V"⟩, 7), (⟨"DrillArchive$Planner", "nearest", "(LDrillArchive$Hit;)I"⟩, 7), (⟨"DrillArchive$TextWriter", "writeHits", "(LDrillArchive$Drawing;LDrillArchive$Tool;I)V"⟩, 5), (⟨"DrillArchive$TextWriter", "writeHit", "(LDrillArchive$Hit;)V"⟩, 5), (⟨"java/lang/Throwable", "fillInStackTrace", "(I)Ljava/lang/Throwable;"⟩, 6), (⟨"DrillArchive", "knownTool", "(I)LDrillArchive$Tool;"⟩, 6), (⟨"DrillArchive", "knownFile", "(I)LDrillArchive$StoredFile;"⟩, 6), (⟨"DrillArchiveModel", "addTool", "(IJZ)I"⟩, 39), (⟨"DrillArchiveModel", "isTool", "(I)Z"⟩, 39), (⟨"DrillArchiveModel", "addHit", "(IIJJJJIIZ)I"⟩, 39), (⟨"DrillArchiveModel", "findOrder", "(I)V"⟩, 39), (⟨"DrillArchiveModel", "collect", "(I)V"⟩, 39), (⟨"DrillArchiveModel", "orderNearest", "()V"⟩, 39), (⟨"DrillArchiveModel", "way", "(II)J"⟩, 39)]
theorem lw_r2 : ∀ q ∈ lw_privs_2, lw_okq q := List.forall_mem_cons.mpr ⟨lw_p16, List.forall_mem_cons.mpr ⟨lw_p17, List.forall_mem_cons.mpr ⟨lw_p18, List.forall_mem_cons.mpr ⟨lw_p19, List.forall_mem_cons.mpr ⟨lw_p20, List.forall_mem_cons.mpr ⟨lw_p21, List.forall_mem_cons.mpr ⟨lw_p22, List.forall_mem_cons.mpr ⟨lw_p23, List.forall_mem_cons.mpr ⟨lw_p24, List.forall_mem_cons.mpr ⟨lw_p25, List.forall_mem_cons.mpr ⟨lw_p26, List.forall_mem_cons.mpr ⟨lw_p27, List.forall_mem_cons.mpr ⟨lw_p28, List.forall_mem_cons.mpr ⟨lw_p29, List.forall_mem_cons.mpr ⟨lw_p30, List.forall_mem_cons.mpr ⟨lw_p31, fun _ h => absurd h List.not_mem_nil⟩⟩⟩⟩⟩⟩⟩⟩⟩⟩⟩⟩⟩⟩⟩⟩
theorem lw_p32 : lw_okq (⟨"DrillArchiveModel", "orderExactly", "()V"⟩, 39) := ⟨⟨by decide +kernel, by decide +kernel⟩, List.mem_of_getElem? (i := 854) (by decide +kernel), List.mem_of_getElem? (i := 1054) (by decide +kernel), List.mem_of_getElem? (i := 1055) (by decide +kernel)⟩
theorem lw_p33 : lw_okq (⟨"DrillArchiveModel", "layText", "(II)V"⟩, 39) := ⟨⟨by decide +kernel, by decide +kernel⟩, List.mem_of_getElem? (i := 854) (by decide +kernel), List.mem_of_getElem? (i := 1071) (by decide +kernel), List.mem_of_getElem? (i := 1072) (by decide +kernel)⟩
theorem lw_p34 : lw_okq (⟨"DrillArchiveModel", "say", "(I)V"⟩, 39) := ⟨⟨by decide +kernel, by decide +kernel⟩, List.mem_of_getElem? (i := 854) (by decide +kernel), List.mem_of_getElem? (i := 1075) (by decide +kernel), List.mem_of_getElem? (i := 1076) (by decide +kernel)⟩
theorem lw_p35 : lw_okq (⟨"DrillArchiveModel", "sayNumber", "(J)V"⟩, 39) := ⟨⟨by decide +kernel, by decide +kernel⟩, List.mem_of_getElem? (i := 854) (by decide +kernel), List.mem_of_getElem? (i := 1079) (by decide +kernel), List.mem_of_getElem? (i := 1080) (by decide +kernel)⟩
theorem lw_p36 : lw_okq (⟨"DrillArchiveModel", "sayTool", "(I)V"⟩, 39) := ⟨⟨by decide +kernel, by decide +kernel⟩, List.mem_of_getElem? (i := 854) (by decide +kernel), List.mem_of_getElem? (i := 1084) (by decide +kernel), List.mem_of_getElem? (i := 1085) (by decide +kernel)⟩
theorem lw_p37 : lw_okq (⟨"DrillArchiveModel", "sayHit", "(I)V"⟩, 39) := ⟨⟨by decide +kernel, by decide +kernel⟩, List.mem_of_getElem? (i := 854) (by decide +kernel), List.mem_of_getElem? (i := 1088) (by decide +kernel), List.mem_of_getElem? (i := 1089) (by decide +kernel)⟩
theorem lw_p38 : lw_okq (⟨"DrillArchiveModel", "sayPlace", "(JJ)V"⟩, 39) := ⟨⟨by decide +kernel, by decide +kernel⟩, List.mem_of_getElem? (i := 854) (by decide +kernel), List.mem_of_getElem? (i := 1092) (by decide +kernel), List.mem_of_getElem? (i := 1093) (by decide +kernel)⟩
theorem lw_p39 : lw_okq (⟨"DrillArchiveModel", "readLine", "()V"⟩, 39) := ⟨⟨by decide +kernel, by decide +kernel⟩, List.mem_of_getElem? (i := 854) (by decide +kernel), List.mem_of_getElem? (i := 1104) (by decide +kernel), List.mem_of_getElem? (i := 1105) (by decide +kernel)⟩
theorem lw_p40 : lw_okq (⟨"DrillArchiveModel", "expect", "(I)V"⟩, 39) := ⟨⟨by decide +kernel, by decide +kernel⟩, List.mem_of_getElem? (i := 854) (by decide +kernel), List.mem_of_getElem? (i := 1108) (by decide +kernel), List.mem_of_getElem? (i := 1109) (by decide +kernel)⟩
theorem lw_p41 : lw_okq (⟨"DrillArchiveModel", "now", "()I"⟩, 39) := ⟨⟨by decide +kernel, by decide +kernel⟩, List.mem_of_getElem? (i := 854) (by decide +kernel), List.mem_of_getElem? (i := 1112) (by decide +kernel), List.mem_of_getElem? (i := 1113) (by decide +kernel)⟩
theorem lw_p42 : lw_okq (⟨"DrillArchiveModel", "endLine", "()Z"⟩, 39) := ⟨⟨by decide +kernel, by decide +kernel⟩, List.mem_of_getElem? (i := 854) (by decide +kernel), List.mem_of_getElem? (i := 1116) (by decide +kernel), List.mem_of_getElem? (i := 1117) (by decide +kernel)⟩
theorem lw_p43 : lw_okq (⟨"DrillArchiveModel", "readFirst", "()V"⟩, 39) := ⟨⟨by decide +kernel, by decide +kernel⟩, List.mem_of_getElem? (i := 854) (by decide +kernel), List.mem_of_getElem? (i := 1120) (by decide +kernel), List.mem_of_getElem? (i := 1121) (by decide +kernel)⟩
theorem lw_p44 : lw_okq (⟨"DrillArchiveModel", "readLayers", "()V"⟩, 39) := ⟨⟨by decide +kernel, by decide +kernel⟩, List.mem_of_getElem? (i := 854) (by decide +kernel), List.mem_of_getElem? (i := 1124) (by decide +kernel), List.mem_of_getElem? (i := 1125) (by decide +kernel)⟩
theorem lw_p45 : lw_okq (⟨"DrillArchiveModel", "whole", "()J"⟩, 39) := ⟨⟨by decide +kernel, by decide +kernel⟩, List.mem_of_getElem? (i := 854) (by decide +kernel), List.mem_of_getElem? (i := 1128) (by decide +kernel), List.mem_of_getElem? (i := 1129) (by decide +kernel)⟩
theorem lw_p46 : lw_okq (⟨"DrillArchiveModel", "isDigit", "()Z"⟩, 39) := ⟨⟨by decide +kernel, by decide +kernel⟩, List.mem_of_getElem? (i := 854) (by decide +kernel), List.mem_of_getElem? (i := 1132) (by decide +kernel), List.mem_of_getElem? (i := 1133) (by decide +kernel)⟩
theorem lw_p47 : lw_okq (⟨"DrillArchiveModel", "must", "(Z)V"⟩, 39) := ⟨⟨by decide +kernel, by decide +kernel⟩, List.mem_of_getElem? (i := 854) (by decide +kernel), List.mem_of_getElem? (i := 1137) (by decide +kernel), List.mem_of_getElem? (i := 1138) (by decide +kernel)⟩
def lw_privs_3 : List (MethodName × Nat) := [(⟨"DrillArchiveModel", "orderExactly", "()V"⟩, 39), (⟨"DrillArchiveModel", "layText", "(II)V"⟩, 39), (⟨"DrillArchiveModel", "say", "(I)V"⟩, 39), (⟨"DrillArchiveModel", "sayNumber", "(J)V"⟩, 39), (⟨"DrillArchiveModel", "sayTool", "(I)V"⟩, 39), (⟨"DrillArchiveModel", "sayHit", "(I)V"⟩, 39), (⟨"DrillArchiveModel", "sayPlace", "(JJ)V"⟩, 39), (⟨"DrillArchiveModel", "readLine", "()V"⟩, 39), (⟨"DrillArchiveModel", "expect", "(I)V"⟩, 39), (⟨"DrillArchiveModel", "now", "()I"⟩, 39), (⟨"DrillArchiveModel", "endLine", "()Z"⟩, 39), (⟨"DrillArchiveModel", "readFirst", "()V"⟩, 39), (⟨"DrillArchiveModel", "readLayers", "()V"⟩, 39), (⟨"DrillArchiveModel", "whole", "()J"⟩, 39), (⟨"DrillArchiveModel", "isDigit", "()Z"⟩, 39), (⟨"DrillArchiveModel", "must", "(Z)V"⟩, 39)]
theorem lw_r3 : ∀ q ∈ lw_privs_3, lw_okq q := List.forall_mem_cons.mpr ⟨lw_p32, List.forall_mem_cons.mpr ⟨lw_p33, List.forall_mem_cons.mpr ⟨lw_p34, List.forall_mem_cons.mpr ⟨lw_p35, List.forall_mem_cons.mpr ⟨lw_p36, List.forall_mem_cons.mpr ⟨lw_p37, List.forall_mem_cons.mpr ⟨lw_p38, List.forall_mem_cons.mpr ⟨lw_p39, List.forall_mem_cons.mpr ⟨lw_p40, List.forall_mem_cons.mpr ⟨lw_p41, List.forall_mem_cons.mpr ⟨lw_p42, List.forall_mem_cons.mpr ⟨lw_p43, List.forall_mem_cons.mpr ⟨lw_p44, List.forall_mem_cons.mpr ⟨lw_p45, List.forall_mem_cons.mpr ⟨lw_p46, List.forall_mem_cons.mpr ⟨lw_p47, fun _ h => absurd h List.not_mem_nil⟩⟩⟩⟩⟩⟩⟩⟩⟩⟩⟩⟩⟩⟩⟩⟩
theorem lw_p48 : lw_okq (⟨"DrillArchiveModel", "readTool", "()V"⟩, 39) := ⟨⟨by decide +kernel, by decide +kernel⟩, List.mem_of_getElem? (i := 854) (by decide +kernel), List.mem_of_getElem? (i := 1141) (by decide +kernel), List.mem_of_getElem? (i := 1142) (by decide +kernel)⟩
theorem lw_p49 : lw_okq (⟨"DrillArchiveModel", "readSecond", "()V"⟩, 39) := ⟨⟨by decide +kernel, by decide +kernel⟩, List.mem_of_getElem? (i := 854) (by decide +kernel), List.mem_of_getElem? (i := 1145) (by decide +kernel), List.mem_of_getElem? (i := 1146) (by decide +kernel)⟩
theorem lw_p50 : lw_okq (⟨"DrillArchiveModel", "readHit", "()V"⟩, 39) := ⟨⟨by decide +kernel, by decide +kernel⟩, List.mem_of_getElem? (i := 854) (by decide +kernel), List.mem_of_getElem? (i := 1149) (by decide +kernel), List.mem_of_getElem? (i := 1150) (by decide +kernel)⟩
theorem lw_p51 : lw_okq (⟨"DrillArchiveModel", "number", "()J"⟩, 39) := ⟨⟨by decide +kernel, by decide +kernel⟩, List.mem_of_getElem? (i := 854) (by decide +kernel), List.mem_of_getElem? (i := 1153) (by decide +kernel), List.mem_of_getElem? (i := 1154) (by decide +kernel)⟩
theorem lw_p52 : lw_okq (⟨"DrillArchiveModel", "fileWith", "(I)I"⟩, 39) := ⟨⟨by decide +kernel, by decide +kernel⟩, List.mem_of_getElem? (i := 854) (by decide +kernel), List.mem_of_getElem? (i := 1161) (by decide +kernel), List.mem_of_getElem? (i := 1162) (by decide +kernel)⟩
theorem lw_p53 : lw_okq (⟨"DrillArchiveModel", "isFile", "(I)Z"⟩, 39) := ⟨⟨by decide +kernel, by decide +kernel⟩, List.mem_of_getElem? (i := 854) (by decide +kernel), List.mem_of_getElem? (i := 1169) (by decide +kernel), List.mem_of_getElem? (i := 1170) (by decide +kernel)⟩
theorem lw_p54 : lw_okq (⟨"DrillArchiveModel", "sumOf", "(I)I"⟩, 39) := ⟨⟨by decide +kernel, by decide +kernel⟩, List.mem_of_getElem? (i := 854) (by decide +kernel), List.mem_of_getElem? (i := 1180) (by decide +kernel), List.mem_of_getElem? (i := 1181) (by decide +kernel)⟩
theorem lw_p55 : lw_okq (⟨"DrillArchiveModel", "put", "(I)V"⟩, 39) := ⟨⟨by decide +kernel, by decide +kernel⟩, List.mem_of_getElem? (i := 854) (by decide +kernel), List.mem_of_getElem? (i := 1189) (by decide +kernel), List.mem_of_getElem? (i := 1190) (by decide +kernel)⟩
theorem lw_p56 : lw_okq (⟨"DrillArchiveModel", "walk", "(Z)I"⟩, 39) := ⟨⟨by decide +kernel, by decide +kernel⟩, List.mem_of_getElem? (i := 854) (by decide +kernel), List.mem_of_getElem? (i := 1201) (by decide +kernel), List.mem_of_getElem? (i := 1202) (by decide +kernel)⟩
theorem lw_p57 : lw_okq (⟨"DrillArchiveModel", "isText", "(I)Z"⟩, 39) := ⟨⟨by decide +kernel, by decide +kernel⟩, List.mem_of_getElem? (i := 854) (by decide +kernel), List.mem_of_getElem? (i := 1209) (by decide +kernel), List.mem_of_getElem? (i := 1210) (by decide +kernel)⟩
def lw_privs_4 : List (MethodName × Nat) := [(⟨"DrillArchiveModel", "readTool", "()V"⟩, 39), (⟨"DrillArchiveModel", "readSecond", "()V"⟩, 39), (⟨"DrillArchiveModel", "readHit", "()V"⟩, 39), (⟨"DrillArchiveModel", "number", "()J"⟩, 39), (⟨"DrillArchiveModel", "fileWith", "(I)I"⟩, 39), (⟨"DrillArchiveModel", "isFile", "(I)Z"⟩, 39), (⟨"DrillArchiveModel", "sumOf", "(I)I"⟩, 39), (⟨"DrillArchiveModel", "put", "(I)V"⟩, 39), (⟨"DrillArchiveModel", "walk", "(Z)I"⟩, 39), (⟨"DrillArchiveModel", "isText", "(I)Z"⟩, 39)]
theorem lw_r4 : ∀ q ∈ lw_privs_4, lw_okq q := List.forall_mem_cons.mpr ⟨lw_p48, List.forall_mem_cons.mpr ⟨lw_p49, List.forall_mem_cons.mpr ⟨lw_p50, List.forall_mem_cons.mpr ⟨lw_p51, List.forall_mem_cons.mpr ⟨lw_p52, List.forall_mem_cons.mpr ⟨lw_p53, List.forall_mem_cons.mpr ⟨lw_p54, List.forall_mem_cons.mpr ⟨lw_p55, List.forall_mem_cons.mpr ⟨lw_p56, List.forall_mem_cons.mpr ⟨lw_p57, fun _ h => absurd h List.not_mem_nil⟩⟩⟩⟩⟩⟩⟩⟩⟩⟩
def lw_privs : List (MethodName × Nat) := lw_privs_1 ++ (lw_privs_2 ++ (lw_privs_3 ++ (lw_privs_4)))
def lw_tbl : List Cond := k2_sels lw_privs ++ tables_1
theorem lw_privs_ok : ∀ q ∈ lw_privs, lw_okq q := by
  show ∀ q ∈ lw_privs_1 ++ (lw_privs_2 ++ (lw_privs_3 ++ (lw_privs_4))), lw_okq q
  exact List.forall_mem_append.mpr ⟨lw_r1, List.forall_mem_append.mpr ⟨lw_r2, List.forall_mem_append.mpr ⟨lw_r3, lw_r4⟩⟩⟩
end
section
/-! names: classes, fields, methods, instruction tables (by program, wip/whole/gen/gen.py) -/
def RDa : String := "DrillArchive"
def TDa : u_T := fun k => match k with
  | 0 => ("DrillArchive", "planner", "LDrillArchive$Planner;", true)
  | 1 => ("DrillArchive", "writer", "LDrillArchive$TextWriter;", true)
  | 2 => ("DrillArchive", "units", "LDrillArchive$Row;", true)
  | 3 => ("DrillArchive", "fed", "LDrillArchive$Row;", true)
  | 4 => ("DrillArchive", "drawing", "LDrillArchive$Drawing;", false)
  | _ => ("DrillArchive", "files", "LDrillArchive$FileSet;", false)
def tyDa : Nat → FieldType := fun k => match k with
  | 0 => .object "DrillArchive$Planner"
  | 1 => .object "DrillArchive$TextWriter"
  | 2 => .object "DrillArchive$Row"
  | 3 => .object "DrillArchive$Row"
  | 4 => .object "DrillArchive$Drawing"
  | _ => .object "DrillArchive$FileSet"
theorem nmDa : ∀ a, a < 6 → ∀ b, b < 6 → a ≠ b → (TDa a).2.1 ≠ (TDa b).2.1 := by decide +kernel
theorem tyDa_ok : ∀ k, k < 6 → parseFieldDescriptor (TDa k).2.2.1 = some (tyDa k) := by decide +kernel
def RDr : String := "DrillArchive$Drawing"
def TDr : u_T := fun k => match k with
  | 0 => ("DrillArchive$Drawing", "tools", "[LDrillArchive$Tool;", true)
  | 1 => ("DrillArchive$Drawing", "hits", "[LDrillArchive$Hit;", true)
  | 2 => ("DrillArchive$Drawing", "toolCount", "I", false)
  | _ => ("DrillArchive$Drawing", "hitCount", "I", false)
def tyDr : Nat → FieldType := fun k => match k with
  | 0 => .array (.object "DrillArchive$Tool")
  | 1 => .array (.object "DrillArchive$Hit")
  | 2 => .int
  | _ => .int
theorem nmDr : ∀ a, a < 4 → ∀ b, b < 4 → a ≠ b → (TDr a).2.1 ≠ (TDr b).2.1 := by decide +kernel
theorem tyDr_ok : ∀ k, k < 4 → parseFieldDescriptor (TDr k).2.2.1 = some (tyDr k) := by decide +kernel
def RFs : String := "DrillArchive$FileSet"
def TFs : u_T := fun k => match k with
  | 0 => ("DrillArchive$FileSet", "files", "[LDrillArchive$StoredFile;", true)
  | _ => ("DrillArchive$FileSet", "count", "I", false)
def tyFs : Nat → FieldType := fun k => match k with
  | 0 => .array (.object "DrillArchive$StoredFile")
  | _ => .int
theorem nmFs : ∀ a, a < 2 → ∀ b, b < 2 → a ≠ b → (TFs a).2.1 ≠ (TFs b).2.1 := by decide +kernel
theorem tyFs_ok : ∀ k, k < 2 → parseFieldDescriptor (TFs k).2.2.1 = some (tyFs k) := by decide +kernel
def RHi : String := "DrillArchive$Hit"
def THi : u_T := fun k => match k with
  | 0 => ("DrillArchive$Hit", "tool", "I", true)
  | 1 => ("DrillArchive$Hit", "x", "I", true)
  | 2 => ("DrillArchive$Hit", "y", "I", true)
  | 3 => ("DrillArchive$Hit", "endX", "I", true)
  | 4 => ("DrillArchive$Hit", "endY", "I", true)
  | 5 => ("DrillArchive$Hit", "from", "I", true)
  | _ => ("DrillArchive$Hit", "to", "I", true)
def tyHi : Nat → FieldType := fun k => match k with
  | 0 => .int
  | 1 => .int
  | 2 => .int
  | 3 => .int
  | 4 => .int
  | 5 => .int
  | _ => .int
theorem nmHi : ∀ a, a < 7 → ∀ b, b < 7 → a ≠ b → (THi a).2.1 ≠ (THi b).2.1 := by decide +kernel
theorem tyHi_ok : ∀ k, k < 7 → parseFieldDescriptor (THi k).2.2.1 = some (tyHi k) := by decide +kernel
def RPl : String := "DrillArchive$Planner"
def TPl : u_T := fun k => match k with
  | 0 => ("DrillArchive$Planner", "origin", "LDrillArchive$Hit;", true)
  | 1 => ("DrillArchive$Planner", "mine", "[LDrillArchive$Hit;", true)
  | 2 => ("DrillArchive$Planner", "done", "[Z", true)
  | 3 => ("DrillArchive$Planner", "ways", "[I", true)
  | 4 => ("DrillArchive$Planner", "rest", "[I", true)
  | 5 => ("DrillArchive$Planner", "count", "I", false)
  | _ => ("DrillArchive$Planner", "least", "I", false)
def tyPl : Nat → FieldType := fun k => match k with
  | 0 => .object "DrillArchive$Hit"
  | 1 => .array (.object "DrillArchive$Hit")
  | 2 => .array (.boolean)
  | 3 => .array (.int)
  | 4 => .array (.int)
  | 5 => .int
  | _ => .int
theorem nmPl : ∀ a, a < 7 → ∀ b, b < 7 → a ≠ b → (TPl a).2.1 ≠ (TPl b).2.1 := by decide +kernel
theorem tyPl_ok : ∀ k, k < 7 → parseFieldDescriptor (TPl k).2.2.1 = some (tyPl k) := by decide +kernel
def RRo : String := "DrillArchive$Row"
def TRo : u_T := fun k => match k with
  | 0 => ("DrillArchive$Row", "limit", "I", true)
  | 1 => ("DrillArchive$Row", "cells", "[I", false)
  | _ => ("DrillArchive$Row", "count", "I", false)
def tyRo : Nat → FieldType := fun k => match k with
  | 0 => .int
  | 1 => .array (.int)
  | _ => .int
theorem nmRo : ∀ a, a < 3 → ∀ b, b < 3 → a ≠ b → (TRo a).2.1 ≠ (TRo b).2.1 := by decide +kernel
theorem tyRo_ok : ∀ k, k < 3 → parseFieldDescriptor (TRo k).2.2.1 = some (tyRo k) := by decide +kernel
def RSf : String := "DrillArchive$StoredFile"
def TSf : u_T := fun k => match k with
  | 0 => ("DrillArchive$StoredFile", "role", "I", true)
  | 1 => ("DrillArchive$StoredFile", "bytes", "LDrillArchive$Row;", true)
  | _ => ("DrillArchive$StoredFile", "total", "I", false)
def tySf : Nat → FieldType := fun k => match k with
  | 0 => .int
  | 1 => .object "DrillArchive$Row"
  | _ => .int
theorem nmSf : ∀ a, a < 3 → ∀ b, b < 3 → a ≠ b → (TSf a).2.1 ≠ (TSf b).2.1 := by decide +kernel
theorem tySf_ok : ∀ k, k < 3 → parseFieldDescriptor (TSf k).2.2.1 = some (tySf k) := by decide +kernel
def RTr : String := "DrillArchive$TextReader"
def TTr : u_T := fun k => match k with
  | 0 => ("DrillArchive$TextReader", "text", "LDrillArchive$Row;", true)
  | 1 => ("DrillArchive$TextReader", "drawing", "LDrillArchive$Drawing;", true)
  | 2 => ("DrillArchive$TextReader", "place", "I", false)
  | 3 => ("DrillArchive$TextReader", "from", "I", false)
  | 4 => ("DrillArchive$TextReader", "to", "I", false)
  | 5 => ("DrillArchive$TextReader", "chosen", "I", false)
  | 6 => ("DrillArchive$TextReader", "number", "I", false)
  | 7 => ("DrillArchive$TextReader", "placeX", "I", false)
  | _ => ("DrillArchive$TextReader", "placeY", "I", false)
def tyTr : Nat → FieldType := fun k => match k with
  | 0 => .object "DrillArchive$Row"
  | 1 => .object "DrillArchive$Drawing"
  | 2 => .int
  | 3 => .int
  | 4 => .int
  | 5 => .int
  | 6 => .int
  | 7 => .int
  | _ => .int
theorem nmTr : ∀ a, a < 9 → ∀ b, b < 9 → a ≠ b → (TTr a).2.1 ≠ (TTr b).2.1 := by decide +kernel
theorem tyTr_ok : ∀ k, k < 9 → parseFieldDescriptor (TTr k).2.2.1 = some (tyTr k) := by decide +kernel
def RTw : String := "DrillArchive$TextWriter"
def TTw : u_T := fun k => match k with
  | 0 => ("DrillArchive$TextWriter", "planner", "LDrillArchive$Planner;", true)
  | 1 => ("DrillArchive$TextWriter", "out", "LDrillArchive$Row;", true)
  | 2 => ("DrillArchive$TextWriter", "kept", "Z", false)
  | 3 => ("DrillArchive$TextWriter", "keptFrom", "I", false)
  | _ => ("DrillArchive$TextWriter", "keptTo", "I", false)
def tyTw : Nat → FieldType := fun k => match k with
  | 0 => .object "DrillArchive$Planner"
  | 1 => .object "DrillArchive$Row"
  | 2 => .boolean
  | 3 => .int
  | _ => .int
theorem nmTw : ∀ a, a < 5 → ∀ b, b < 5 → a ≠ b → (TTw a).2.1 ≠ (TTw b).2.1 := by decide +kernel
theorem tyTw_ok : ∀ k, k < 5 → parseFieldDescriptor (TTw k).2.2.1 = some (tyTw k) := by decide +kernel
def RTo : String := "DrillArchive$Tool"
def TTo : u_T := fun k => match k with
  | 0 => ("DrillArchive$Tool", "diameter", "I", true)
  | 1 => ("DrillArchive$Tool", "plated", "Z", true)
  | 2 => ("DrillArchive$Tool", "hits", "LDrillArchive$Row;", true)
  | 3 => ("DrillArchive$Tool", "ordered", "LDrillArchive$Row;", true)
  | 4 => ("DrillArchive$Tool", "length", "J", false)
  | _ => ("DrillArchive$Tool", "planned", "Z", false)
def tyTo : Nat → FieldType := fun k => match k with
  | 0 => .int
  | 1 => .boolean
  | 2 => .object "DrillArchive$Row"
  | 3 => .object "DrillArchive$Row"
  | 4 => .long
  | _ => .boolean
theorem nmTo : ∀ a, a < 6 → ∀ b, b < 6 → a ≠ b → (TTo a).2.1 ≠ (TTo b).2.1 := by decide +kernel
theorem tyTo_ok : ∀ k, k < 6 → parseFieldDescriptor (TTo k).2.2.1 = some (tyTo k) := by decide +kernel
def RMo : String := "DrillArchiveModel"
def TMo : u_T := fun k => match k with
  | 0 => ("DrillArchiveModel", "thrown", "I", false)
  | 1 => ("DrillArchiveModel", "tools", "[I", true)
  | 2 => ("DrillArchiveModel", "diameters", "[J", true)
  | 3 => ("DrillArchiveModel", "plated", "[Z", true)
  | 4 => ("DrillArchiveModel", "hits", "[I", true)
  | 5 => ("DrillArchiveModel", "toolOf", "[I", true)
  | 6 => ("DrillArchiveModel", "x", "[J", true)
  | 7 => ("DrillArchiveModel", "y", "[J", true)
  | 8 => ("DrillArchiveModel", "endX", "[J", true)
  | 9 => ("DrillArchiveModel", "endY", "[J", true)
  | 10 => ("DrillArchiveModel", "from", "[I", true)
  | 11 => ("DrillArchiveModel", "to", "[I", true)
  | 12 => ("DrillArchiveModel", "isSlot", "[Z", true)
  | 13 => ("DrillArchiveModel", "many", "I", false)
  | 14 => ("DrillArchiveModel", "row", "[I", true)
  | 15 => ("DrillArchiveModel", "order", "[I", true)
  | 16 => ("DrillArchiveModel", "least", "[J", true)
  | 17 => ("DrillArchiveModel", "laid", "I", false)
  | 18 => ("DrillArchiveModel", "page", "[I", true)
  | 19 => ("DrillArchiveModel", "length", "I", false)
  | 20 => ("DrillArchiveModel", "text", "[I", true)
  | 21 => ("DrillArchiveModel", "at", "I", false)
  | 22 => ("DrillArchiveModel", "began", "I", false)
  | 23 => ("DrillArchiveModel", "wrong", "I", false)
  | 24 => ("DrillArchiveModel", "means", "Z", false)
  | 25 => ("DrillArchiveModel", "files", "I", false)
  | 26 => ("DrillArchiveModel", "roles", "[I", true)
  | 27 => ("DrillArchiveModel", "sizes", "[I", true)
  | 28 => ("DrillArchiveModel", "bytes", "[I", true)
  | 29 => ("DrillArchiveModel", "fed", "I", false)
  | 30 => ("DrillArchiveModel", "feed", "[I", true)
  | 31 => ("DrillArchiveModel", "wanted", "I", false)
  | 32 => ("DrillArchiveModel", "written", "I", false)
  | 33 => ("DrillArchiveModel", "found", "I", false)
  | 34 => ("DrillArchiveModel", "stage", "I", false)
  | 35 => ("DrillArchiveModel", "hasLayers", "Z", false)
  | 36 => ("DrillArchiveModel", "readFrom", "I", false)
  | 37 => ("DrillArchiveModel", "readTo", "I", false)
  | _ => ("DrillArchiveModel", "current", "I", false)
def tyMo : Nat → FieldType := fun k => match k with
  | 0 => .int
  | 1 => .array (.int)
  | 2 => .array (.long)
  | 3 => .array (.boolean)
  | 4 => .array (.int)
  | 5 => .array (.int)
  | 6 => .array (.long)
  | 7 => .array (.long)
  | 8 => .array (.long)
  | 9 => .array (.long)
  | 10 => .array (.int)
  | 11 => .array (.int)
  | 12 => .array (.boolean)
  | 13 => .int
  | 14 => .array (.int)
  | 15 => .array (.int)
  | 16 => .array (.long)
  | 17 => .int
  | 18 => .array (.int)
  | 19 => .int
  | 20 => .array (.int)
  | 21 => .int
  | 22 => .int
  | 23 => .int
  | 24 => .boolean
  | 25 => .int
  | 26 => .array (.int)
  | 27 => .array (.int)
  | 28 => .array (.int)
  | 29 => .int
  | 30 => .array (.int)
  | 31 => .int
  | 32 => .int
  | 33 => .int
  | 34 => .int
  | 35 => .boolean
  | 36 => .int
  | 37 => .int
  | _ => .int
theorem nmMo : ∀ a, a < 39 → ∀ b, b < 39 → a ≠ b → (TMo a).2.1 ≠ (TMo b).2.1 := by decide +kernel
theorem tyMo_ok : ∀ k, k < 39 → parseFieldDescriptor (TMo k).2.2.1 = some (tyMo k) := by decide +kernel
def RJIa : String := "java/lang/IllegalArgumentException"
def TJIa : u_T := fun k => match k with
  | 0 => ("java/lang/Throwable", "cause", "Ljava/lang/Throwable;", false)
  | 1 => ("java/lang/Throwable", "stackTrace", "[Ljava/lang/StackTraceElement;", false)
  | 2 => ("java/lang/Throwable", "suppressedExceptions", "Ljava/util/List;", false)
  | 3 => ("java/lang/Throwable", "detailMessage", "Ljava/lang/String;", false)
  | 4 => ("java/lang/Throwable", "backtrace", "Ljava/lang/Object;", false)
  | _ => ("java/lang/Throwable", "depth", "I", false)
def tyJIa : Nat → FieldType := fun k => match k with
  | 0 => .object "java/lang/Throwable"
  | 1 => .array (.object "java/lang/StackTraceElement")
  | 2 => .object "java/util/List"
  | 3 => .object "java/lang/String"
  | 4 => .object "java/lang/Object"
  | _ => .int
theorem nmJIa : ∀ a, a < 6 → ∀ b, b < 6 → a ≠ b → (TJIa a).2.1 ≠ (TJIa b).2.1 := by decide +kernel
theorem tyJIa_ok : ∀ k, k < 6 → parseFieldDescriptor (TJIa k).2.2.1 = some (tyJIa k) := by decide +kernel
def RJIo : String := "java/lang/IndexOutOfBoundsException"
def TJIo : u_T := fun k => match k with
  | 0 => ("java/lang/Throwable", "cause", "Ljava/lang/Throwable;", false)
  | 1 => ("java/lang/Throwable", "stackTrace", "[Ljava/lang/StackTraceElement;", false)
  | 2 => ("java/lang/Throwable", "suppressedExceptions", "Ljava/util/List;", false)
  | 3 => ("java/lang/Throwable", "detailMessage", "Ljava/lang/String;", false)
  | 4 => ("java/lang/Throwable", "backtrace", "Ljava/lang/Object;", false)
  | _ => ("java/lang/Throwable", "depth", "I", false)
def tyJIo : Nat → FieldType := fun k => match k with
  | 0 => .object "java/lang/Throwable"
  | 1 => .array (.object "java/lang/StackTraceElement")
  | 2 => .object "java/util/List"
  | 3 => .object "java/lang/String"
  | 4 => .object "java/lang/Object"
  | _ => .int
theorem nmJIo : ∀ a, a < 6 → ∀ b, b < 6 → a ≠ b → (TJIo a).2.1 ≠ (TJIo b).2.1 := by decide +kernel
theorem tyJIo_ok : ∀ k, k < 6 → parseFieldDescriptor (TJIo k).2.2.1 = some (tyJIo k) := by decide +kernel
def gCL : List vw_C := [(RDa, TDa, 6), (RDr, TDr, 4), (RFs, TFs, 2), (RHi, THi, 7), (RPl, TPl, 7), (RRo, TRo, 3), (RSf, TSf, 3), (RTr, TTr, 9), (RTw, TTw, 5), (RTo, TTo, 6), (RMo, TMo, 39), (RJIa, TJIa, 6), (RJIo, TJIo, 6)]
/-- String constants: class, pool entry, text, which text -/
def gST : List (String × Nat × String × Nat) := [("DrillArchive$TextReader", 41, "M48\n", 0), ("DrillArchive$TextReader", 77, "\n", 1), ("DrillArchive$TextReader", 90, "P\n", 2), ("DrillArchive$TextReader", 92, "N\n", 3), ("DrillArchive$TextReader", 57, "%\n", 4), ("DrillArchive$TextReader", 120, "G85", 5), ("DrillArchive$TextReader", 65, "M30\n", 6), ("DrillArchive$TextWriter", 67, "M48\n", 0), ("DrillArchive$TextWriter", 85, "P\n", 2), ("DrillArchive$TextWriter", 87, "N\n", 3), ("DrillArchive$TextWriter", 89, "%\n", 4), ("DrillArchive$TextWriter", 127, "G85", 5), ("DrillArchive$TextWriter", 61, "M30\n", 6), ("DrillArchive", 57, "no diameter", 7), ("DrillArchive", 205, "no such tool", 8), ("DrillArchive", 79, "no such layer", 9), ("DrillArchive", 86, "no place, or from is above to", 10), ("DrillArchive", 97, "no place, or both places are one", 11), ("DrillArchive", 99, "no such character, or no such layers", 12), ("DrillArchive", 132, "no such hit, or nothing of it", 13), ("DrillArchive", 160, "no role", 14), ("DrillArchive", 210, "no such file", 15), ("DrillArchive", 172, "no byte", 16), ("DrillArchive", 177, "no such byte", 17)]
def gSN : Nat := 18
def gSL : List Nat := [4, 1, 2, 2, 2, 3, 4, 11, 12, 13, 29, 32, 36, 29, 7, 12, 7, 12]
def gSB : List (List Int32) := [[77, 52, 56, 10], [10], [80, 10], [78, 10], [37, 10], [71, 56, 53], [77, 51, 48, 10], [110, 111, 32, 100, 105, 97, 109, 101, 116, 101, 114], [110, 111, 32, 115, 117, 99, 104, 32, 116, 111, 111, 108], [110, 111, 32, 115, 117, 99, 104, 32, 108, 97, 121, 101, 114], [110, 111, 32, 112, 108, 97, 99, 101, 44, 32, 111, 114, 32, 102, 114, 111, 109, 32, 105, 115, 32, 97, 98, 111, 118, 101, 32, 116, 111], [110, 111, 32, 112, 108, 97, 99, 101, 44, 32, 111, 114, 32, 98, 111, 116, 104, 32, 112, 108, 97, 99, 101, 115, 32, 97, 114, 101, 32, 111, 110, 101], [110, 111, 32, 115, 117, 99, 104, 32, 99, 104, 97, 114, 97, 99, 116, 101, 114, 44, 32, 111, 114, 32, 110, 111, 32, 115, 117, 99, 104, 32, 108, 97, 121, 101, 114, 115], [110, 111, 32, 115, 117, 99, 104, 32, 104, 105, 116, 44, 32, 111, 114, 32, 110, 111, 116, 104, 105, 110, 103, 32, 111, 102, 32, 105, 116], [110, 111, 32, 114, 111, 108, 101], [110, 111, 32, 115, 117, 99, 104, 32, 102, 105, 108, 101], [110, 111, 32, 98, 121, 116, 101], [110, 111, 32, 115, 117, 99, 104, 32, 98, 121, 116, 101]]
abbrev xT : Type := List (Nat × ClassFile.Instr)
def tbDa_init : xT := [(0, .aload_n 0), (1, .invokespecial 1), (4, .aload_n 0), (5, .new 7), (8, .dup), (9, .invokespecial 9), (12, .putfield 10), (15, .aload_n 0), (16, .new 16), (19, .dup), (20, .aload_n 0), (21, .getfield 10), (24, .invokespecial 18), (27, .putfield 21), (30, .aload_n 0), (31, .new 25), (34, .dup), (35, .sipush 2000), (38, .invokespecial 27), (41, .putfield 30), (44, .aload_n 0), (45, .new 25), (48, .dup), (49, .sipush 2600), (52, .invokespecial 27), (55, .putfield 34), (58, .aload_n 0), (59, .new 37), (62, .dup), (63, .invokespecial 39), (66, .putfield 40), (69, .aload_n 0), (70, .new 44), (73, .dup), (74, .invokespecial 46), (77, .putfield 47), (80, .return_)]
def tbJOb_init : xT := [(0, .return_)]
def tbPl_init : xT := [(0, .aload_n 0), (1, .invokespecial 3), (4, .aload_n 0), (5, .new 9), (8, .dup), (9, .iconst (-1)), (10, .iconst 0), (11, .iconst 0), (12, .iconst 0), (13, .iconst 0), (14, .iconst 0), (15, .iconst 0), (16, .invokespecial 11), (19, .putfield 14), (22, .aload_n 0), (23, .bipush 60), (25, .anewarray 9), (28, .putfield 20), (31, .aload_n 0), (32, .bipush 60), (34, .newarray .boolean), (36, .putfield 24), (39, .aload_n 0), (40, .bipush 72), (42, .newarray .int), (44, .putfield 28), (47, .aload_n 0), (48, .sipush 2048), (51, .newarray .int), (53, .putfield 32), (56, .return_)]
def tbHi_init : xT := [(0, .aload_n 0), (1, .invokespecial 1), (4, .aload_n 0), (5, .iload_n 1), (6, .putfield 7), (9, .aload_n 0), (10, .iload_n 2), (11, .putfield 13), (14, .aload_n 0), (15, .iload_n 3), (16, .putfield 16), (19, .aload_n 0), (20, .iload 4), (22, .putfield 19), (25, .aload_n 0), (26, .iload 5), (28, .putfield 22), (31, .aload_n 0), (32, .iload 6), (34, .putfield 25), (37, .aload_n 0), (38, .iload 7), (40, .putfield 28), (43, .return_)]
def tbTw_init : xT := [(0, .aload_n 0), (1, .invokespecial 3), (4, .aload_n 0), (5, .new 9), (8, .dup), (9, .sipush 2600), (12, .invokespecial 11), (15, .putfield 14), (18, .aload_n 0), (19, .aload_n 1), (20, .putfield 20), (23, .return_)]
def tbRo_init : xT := [(0, .aload_n 0), (1, .invokespecial 3), (4, .aload_n 0), (5, .iload_n 1), (6, .putfield 9), (9, .aload_n 0), (10, .bipush 8), (12, .newarray .int), (14, .putfield 15), (17, .return_)]
def tbDr_init : xT := [(0, .aload_n 0), (1, .invokespecial 3), (4, .aload_n 0), (5, .bipush 10), (7, .anewarray 9), (10, .putfield 11), (13, .aload_n 0), (14, .bipush 60), (16, .anewarray 17), (19, .putfield 19), (22, .return_)]
def tbFs_init : xT := [(0, .aload_n 0), (1, .invokespecial 3), (4, .aload_n 0), (5, .bipush 8), (7, .anewarray 9), (10, .putfield 11), (13, .return_)]
def tbDa_unit : xT := [(0, .iload_n 1), (1, .bipush 10), (3, .if_icmp .eq 15), (6, .iload_n 1), (7, .bipush 32), (9, .if_icmp .lt 13), (12, .iload_n 1), (13, .bipush 126), (15, .if_icmp .gt 7), (18, .iconst 1), (19, .goto 4), (22, .iconst 0), (23, .istore_n 2), (24, .iload_n 2), (25, .ifCond .eq 18), (28, .aload_n 0), (29, .getfield 30), (32, .iload_n 1), (33, .invokevirtual 109), (36, .ifCond .eq 7), (39, .iconst 1), (40, .goto 4), (43, .iconst 0), (44, .ireturn)]
def tbRo_push : xT := [(0, .aload_n 0), (1, .getfield 19), (4, .aload_n 0), (5, .getfield 9), (8, .if_icmp .lt 5), (11, .iconst 0), (12, .ireturn), (13, .aload_n 0), (14, .getfield 19), (17, .aload_n 0), (18, .getfield 15), (21, .arraylength), (22, .if_icmp .lt 20), (25, .aload_n 0), (26, .aload_n 0), (27, .getfield 15), (30, .aload_n 0), (31, .getfield 19), (34, .iconst 2), (35, .imul), (36, .invokestatic 22), (39, .putfield 15), (42, .aload_n 0), (43, .getfield 15), (46, .aload_n 0), (47, .getfield 19), (50, .iload_n 1), (51, .iastore), (52, .aload_n 0), (53, .dup), (54, .getfield 19), (57, .iconst 1), (58, .iadd), (59, .putfield 19), (62, .iconst 1), (63, .ireturn)]
def tbJAr_copyOf : xT := [(0, .iload_n 1), (1, .aload_n 0), (2, .arraylength), (3, .if_icmp .ne 11), (6, .aload_n 0), (7, .invokevirtual 316), (10, .checkcast 317), (13, .areturn), (14, .iload_n 1), (15, .newarray .int), (17, .astore_n 2), (18, .aload_n 0), (19, .iconst 0), (20, .aload_n 2), (21, .iconst 0), (22, .aload_n 0), (23, .arraylength), (24, .iload_n 1), (25, .invokestatic 304), (28, .invokestatic 150), (31, .aload_n 2), (32, .areturn)]
def tbJMa_min : xT := [(0, .iload_n 0), (1, .iload_n 1), (2, .if_icmp .gt 7), (5, .iload_n 0), (6, .goto 4), (9, .iload_n 1), (10, .ireturn)]
def tbDa_read : xT := [(0, .new 37), (3, .dup), (4, .invokespecial 39), (7, .astore_n 1), (8, .new 112), (11, .dup), (12, .aload_n 0), (13, .getfield 30), (16, .aload_n 1), (17, .invokespecial 114), (20, .invokevirtual 117), (23, .istore_n 2), (24, .iload_n 2), (25, .iconst (-1)), (26, .if_icmp .eq 7), (29, .iconst (-1)), (30, .iload_n 2), (31, .isub), (32, .ireturn), (33, .aload_n 0), (34, .aload_n 1), (35, .putfield 40), (38, .aload_n 0), (39, .getfield 30), (42, .invokevirtual 121), (45, .aload_n 0), (46, .getfield 21), (49, .invokevirtual 62), (52, .aload_n 0), (53, .getfield 40), (56, .getfield 124), (59, .ireturn)]
def tbTr_init : xT := [(0, .aload_n 0), (1, .invokespecial 3), (4, .aload_n 0), (5, .iconst (-1)), (6, .putfield 9), (9, .aload_n 0), (10, .aload_n 1), (11, .putfield 15), (14, .aload_n 0), (15, .aload_n 2), (16, .putfield 19), (19, .return_)]
def tbTr_firstWrong : xT := [(0, .aload_n 0), (1, .invokevirtual 23), (4, .ifCond .eq 35), (7, .aload_n 0), (8, .invokevirtual 27), (11, .ifCond .eq 28), (14, .aload_n 0), (15, .invokevirtual 30), (18, .ifCond .eq 21), (21, .aload_n 0), (22, .getfield 33), (25, .aload_n 0), (26, .getfield 15), (29, .getfield 36), (32, .if_icmp .ne 7), (35, .iconst 1), (36, .goto 4), (39, .iconst 0), (40, .istore_n 1), (41, .iload_n 1), (42, .ifCond .eq 7), (45, .iconst (-1)), (46, .goto 7), (49, .aload_n 0), (50, .getfield 33), (53, .ireturn)]
def tbTr_readLayers : xT := [(0, .aload_n 0), (1, .ldc 41), (3, .invokevirtual 43), (6, .ifCond .eq 14), (9, .aload_n 0), (10, .invokevirtual 47), (13, .ifCond .eq 7), (16, .iconst 1), (17, .goto 4), (20, .iconst 0), (21, .istore_n 1), (22, .iconst 0), (23, .istore_n 2), (24, .iload_n 2), (25, .sipush 2000), (28, .if_icmp .ge 34), (31, .iload_n 1), (32, .ifCond .eq 30), (35, .aload_n 0), (36, .getfield 15), (39, .aload_n 0), (40, .getfield 33), (43, .invokevirtual 50), (46, .bipush 76), (48, .if_icmp .ne 14), (51, .aload_n 0), (52, .invokevirtual 47), (55, .istore_n 1), (56, .iinc 2 1), (59, .goto (-35)), (62, .iload_n 1), (63, .ireturn)]
def tbTr_passes : xT := [(0, .iconst 0), (1, .istore_n 2), (2, .iload_n 2), (3, .aload_n 1), (4, .invokevirtual 138), (7, .if_icmp .ge 40), (10, .aload_n 0), (11, .getfield 15), (14, .aload_n 0), (15, .getfield 33), (18, .invokevirtual 50), (21, .aload_n 1), (22, .iload_n 2), (23, .invokevirtual 144), (26, .if_icmp .eq 5), (29, .iconst 0), (30, .ireturn), (31, .aload_n 0), (32, .dup), (33, .getfield 33), (36, .iconst 1), (37, .iadd), (38, .putfield 33), (41, .iinc 2 1), (44, .goto (-42)), (47, .iconst 1), (48, .ireturn)]
def tbJSt_length : xT := [(0, .aload_n 0), (1, .getfield 9), (4, .arraylength), (5, .aload_n 0), (6, .invokevirtual 335), (9, .ishr), (10, .ireturn)]
def tbJSt_coder : xT := [(0, .getstatic 38), (3, .ifCond .eq 10), (6, .aload_n 0), (7, .getfield 15), (10, .goto 4), (13, .iconst 1), (14, .ireturn)]
def tbRo_get : xT := [(0, .iload_n 1), (1, .ifCond .lt 20), (4, .iload_n 1), (5, .aload_n 0), (6, .getfield 19), (9, .if_icmp .ge 12), (12, .aload_n 0), (13, .getfield 15), (16, .iload_n 1), (17, .iaload), (18, .goto 4), (21, .iconst (-1)), (22, .ireturn)]
def tbJSt_charAt : xT := [(0, .aload_n 0), (1, .invokevirtual 492), (4, .ifCond .eq 12), (7, .aload_n 0), (8, .getfield 9), (11, .iload_n 1), (12, .invokestatic 495), (15, .ireturn), (16, .aload_n 0), (17, .getfield 9), (20, .iload_n 1), (21, .invokestatic 498), (24, .ireturn)]
def tbJSt_isLatin1 : xT := [(0, .getstatic 38), (3, .ifCond .eq 14), (6, .aload_n 0), (7, .getfield 15), (10, .ifCond .ne 7), (13, .iconst 1), (14, .goto 4), (17, .iconst 0), (18, .ireturn)]
def tbJSl_charAt : xT := [(0, .iload_n 1), (1, .aload_n 0), (2, .arraylength), (3, .invokestatic 9), (6, .aload_n 0), (7, .iload_n 1), (8, .baload), (9, .sipush 255), (12, .iand), (13, .i2c), (14, .ireturn)]
def tbJSt_checkIndex : xT := [(0, .iload_n 0), (1, .iload_n 1), (2, .getstatic 1053), (5, .invokestatic 1059), (8, .pop), (9, .return_)]
def tbJPr_checkIndex : xT := [(0, .iload_n 0), (1, .ifCond .lt 8), (4, .iload_n 0), (5, .iload_n 1), (6, .if_icmp .lt 10), (9, .aload_n 2), (10, .iload_n 0), (11, .iload_n 1), (12, .invokestatic 95), (15, .athrow), (16, .iload_n 0), (17, .ireturn)]
def tbJSu_charAt : xT := [(0, .iload_n 1), (1, .aload_n 0), (2, .invokestatic 67), (5, .aload_n 0), (6, .iload_n 1), (7, .invokestatic 71), (10, .ireturn)]
def tbJSu_checkIndex : xT := [(0, .iload_n 0), (1, .aload_n 1), (2, .invokestatic 48), (5, .invokestatic 414), (8, .return_)]
def tbJSu_length : xT := [(0, .aload_n 0), (1, .arraylength), (2, .iconst 1), (3, .ishr), (4, .ireturn)]
def tbJSu_getChar : xT := [(0, .getstatic 44), (3, .ifCond .ne 25), (6, .iload_n 1), (7, .ifCond .lt 11), (10, .iload_n 1), (11, .aload_n 0), (12, .invokestatic 48), (15, .if_icmp .lt 13), (18, .new 52), (21, .dup), (22, .ldc 54), (24, .invokespecial 56), (27, .athrow), (28, .iload_n 1), (29, .iconst 1), (30, .ishl), (31, .istore_n 1), (32, .aload_n 0), (33, .iload_n 1), (34, .iinc 1 1), (37, .baload), (38, .sipush 255), (41, .iand), (42, .getstatic 59), (45, .ishl), (46, .aload_n 0), (47, .iload_n 1), (48, .baload), (49, .sipush 255), (52, .iand), (53, .getstatic 63), (56, .ishl), (57, .ior), (58, .i2c), (59, .ireturn)]
def tbTr_readLayerLine : xT := [(0, .aload_n 0), (1, .getfield 33), (4, .istore_n 1), (5, .aload_n 0), (6, .bipush 76), (8, .iconst 0), (9, .invokevirtual 67), (12, .ifCond .ne 5), (15, .iconst 0), (16, .ireturn), (17, .aload_n 0), (18, .aload_n 0), (19, .getfield 71), (22, .putfield 74), (25, .aload_n 0), (26, .bipush 44), (28, .iconst 0), (29, .invokevirtual 67), (32, .ifCond .eq 12), (35, .aload_n 0), (36, .ldc 77), (38, .invokevirtual 43), (41, .ifCond .ne 5), (44, .iconst 0), (45, .ireturn), (46, .aload_n 0), (47, .aload_n 0), (48, .getfield 71), (51, .putfield 79), (54, .aload_n 0), (55, .aload_n 0), (56, .getfield 74), (59, .invokestatic 82), (62, .ifCond .eq 28), (65, .aload_n 0), (66, .getfield 79), (69, .invokestatic 82), (72, .ifCond .eq 18), (75, .aload_n 0), (76, .getfield 74), (79, .aload_n 0), (80, .getfield 79), (83, .if_icmp .gt 7), (86, .iconst 1), (87, .goto 4), (90, .iconst 0), (91, .iload_n 1), (92, .invokevirtual 86), (95, .ireturn)]
def tbTr_readPart : xT := [(0, .aload_n 0), (1, .getfield 15), (4, .aload_n 0), (5, .getfield 33), (8, .invokevirtual 50), (11, .iload_n 1), (12, .if_icmp .eq 5), (15, .iconst 0), (16, .ireturn), (17, .aload_n 0), (18, .dup), (19, .getfield 33), (22, .iconst 1), (23, .iadd), (24, .putfield 33), (27, .iload_n 2), (28, .ifCond .eq 23), (31, .aload_n 0), (32, .getfield 15), (35, .aload_n 0), (36, .getfield 33), (39, .invokevirtual 50), (42, .bipush 45), (44, .if_icmp .ne 7), (47, .iconst 1), (48, .goto 4), (51, .iconst 0), (52, .istore_n 3), (53, .iload_n 3), (54, .ifCond .eq 13), (57, .aload_n 0), (58, .dup), (59, .getfield 33), (62, .iconst 1), (63, .iadd), (64, .putfield 33), (67, .iconst 0), (68, .istore 4), (70, .iconst 0), (71, .istore 5), (73, .iload 5), (75, .bipush 7), (77, .if_icmp .ge 58), (80, .aload_n 0), (81, .getfield 15), (84, .aload_n 0), (85, .getfield 33), (88, .invokevirtual 50), (91, .invokestatic 135), (94, .ifCond .eq 41), (97, .iload 4), (99, .bipush 10), (101, .imul), (102, .aload_n 0), (103, .getfield 15), (106, .aload_n 0), (107, .getfield 33), (110, .invokevirtual 50), (113, .iadd), (114, .bipush 48), (116, .isub), (117, .istore 4), (119, .aload_n 0), (120, .dup), (121, .getfield 33), (124, .iconst 1), (125, .iadd), (126, .putfield 33), (129, .iinc 5 1), (132, .goto (-59)), (135, .aload_n 0), (136, .iload_n 3), (137, .ifCond .eq 9), (140, .iload 4), (142, .ineg), (143, .goto 5), (146, .iload 4), (148, .putfield 71), (151, .iload 5), (153, .ifCond .le 7), (156, .iconst 1), (157, .goto 4), (160, .iconst 0), (161, .ireturn)]
def tbTr_isDigit : xT := [(0, .iload_n 0), (1, .bipush 48), (3, .if_icmp .lt 13), (6, .iload_n 0), (7, .bipush 57), (9, .if_icmp .gt 7), (12, .iconst 1), (13, .goto 4), (16, .iconst 0), (17, .ireturn)]
def tbDa_isLayer : xT := [(0, .iload_n 0), (1, .ifCond .lt 13), (4, .iload_n 0), (5, .bipush 7), (7, .if_icmp .gt 7), (10, .iconst 1), (11, .goto 4), (14, .iconst 0), (15, .ireturn)]
def tbTr_can : xT := [(0, .iload_n 1), (1, .ifCond .ne 8), (4, .aload_n 0), (5, .iload_n 2), (6, .putfield 33), (9, .iload_n 1), (10, .ireturn)]
def tbTr_readTools : xT := [(0, .iconst 1), (1, .istore_n 1), (2, .iconst 0), (3, .istore_n 2), (4, .iload_n 2), (5, .sipush 2000), (8, .if_icmp .ge 34), (11, .iload_n 1), (12, .ifCond .eq 30), (15, .aload_n 0), (16, .getfield 15), (19, .aload_n 0), (20, .getfield 33), (23, .invokevirtual 50), (26, .bipush 84), (28, .if_icmp .ne 14), (31, .aload_n 0), (32, .invokevirtual 54), (35, .istore_n 1), (36, .iinc 2 1), (39, .goto (-35)), (42, .iload_n 1), (43, .ifCond .eq 16), (46, .aload_n 0), (47, .ldc 57), (49, .invokevirtual 43), (52, .ifCond .eq 7), (55, .iconst 1), (56, .goto 4), (59, .iconst 0), (60, .ireturn)]
def tbTr_readToolLine : xT := [(0, .aload_n 0), (1, .getfield 33), (4, .istore_n 1), (5, .aload_n 0), (6, .bipush 84), (8, .iconst 0), (9, .invokevirtual 67), (12, .ifCond .ne 5), (15, .iconst 0), (16, .ireturn), (17, .aload_n 0), (18, .getfield 71), (21, .istore_n 2), (22, .aload_n 0), (23, .bipush 67), (25, .iconst 0), (26, .invokevirtual 67), (29, .ifCond .ne 5), (32, .iconst 0), (33, .ireturn), (34, .aload_n 0), (35, .getfield 15), (38, .aload_n 0), (39, .getfield 33), (42, .invokevirtual 50), (45, .bipush 80), (47, .if_icmp .ne 7), (50, .iconst 1), (51, .goto 4), (54, .iconst 0), (55, .istore_n 3), (56, .aload_n 0), (57, .iload_n 3), (58, .ifCond .eq 8), (61, .ldc 90), (63, .goto 5), (66, .ldc 92), (68, .invokevirtual 43), (71, .ifCond .ne 5), (74, .iconst 0), (75, .ireturn), (76, .aload_n 0), (77, .iload_n 2), (78, .aload_n 0), (79, .getfield 19), (82, .getfield 94), (85, .if_icmp .ne 34), (88, .aload_n 0), (89, .getfield 71), (92, .i2l), (93, .invokestatic 99), (96, .ifCond .eq 23), (99, .aload_n 0), (100, .getfield 19), (103, .aload_n 0), (104, .getfield 71), (107, .iload_n 3), (108, .invokevirtual 103), (111, .iconst (-1)), (112, .if_icmp .eq 7), (115, .iconst 1), (116, .goto 4), (119, .iconst 0), (120, .iload_n 1), (121, .invokevirtual 86), (124, .ireturn)]
def tbDa_isDiameter : xT := [(0, .lload_n 0), (1, .lconst 1), (2, .lcmp), (3, .ifCond .lt 15), (6, .lload_n 0), (7, .ldc2_w 212), (10, .lcmp), (11, .ifCond .gt 7), (14, .iconst 1), (15, .goto 4), (18, .iconst 0), (19, .ireturn)]
def tbDr_addTool : xT := [(0, .aload_n 0), (1, .getfield 23), (4, .bipush 10), (6, .if_icmp .lt 5), (9, .iconst (-1)), (10, .ireturn), (11, .aload_n 0), (12, .getfield 11), (15, .aload_n 0), (16, .getfield 23), (19, .new 9), (22, .dup), (23, .iload_n 1), (24, .iload_n 2), (25, .invokespecial 27), (28, .aastore), (29, .aload_n 0), (30, .dup), (31, .getfield 23), (34, .iconst 1), (35, .iadd), (36, .putfield 23), (39, .aload_n 0), (40, .getfield 23), (43, .iconst 1), (44, .isub), (45, .ireturn)]
def tbTo_init : xT := [(0, .aload_n 0), (1, .invokespecial 3), (4, .aload_n 0), (5, .new 9), (8, .dup), (9, .bipush 60), (11, .invokespecial 11), (14, .putfield 14), (17, .aload_n 0), (18, .new 9), (21, .dup), (22, .bipush 60), (24, .invokespecial 11), (27, .putfield 20), (30, .aload_n 0), (31, .iload_n 1), (32, .putfield 23), (35, .aload_n 0), (36, .iload_n 2), (37, .putfield 27), (40, .return_)]
def tbTr_readHits : xT := [(0, .iconst 1), (1, .istore_n 1), (2, .iconst 0), (3, .istore_n 2), (4, .iload_n 2), (5, .sipush 2000), (8, .if_icmp .ge 66), (11, .iload_n 1), (12, .ifCond .eq 62), (15, .aload_n 0), (16, .getfield 15), (19, .aload_n 0), (20, .getfield 33), (23, .invokevirtual 50), (26, .bipush 77), (28, .if_icmp .eq 46), (31, .aload_n 0), (32, .getfield 15), (35, .aload_n 0), (36, .getfield 33), (39, .invokevirtual 50), (42, .bipush 88), (44, .if_icmp .ne 19), (47, .aload_n 0), (48, .getfield 9), (51, .iconst (-1)), (52, .if_icmp .eq 11), (55, .aload_n 0), (56, .invokevirtual 59), (59, .istore_n 1), (60, .goto 8), (63, .aload_n 0), (64, .invokevirtual 62), (67, .istore_n 1), (68, .iinc 2 1), (71, .goto (-67)), (74, .iload_n 1), (75, .ifCond .eq 16), (78, .aload_n 0), (79, .ldc 65), (81, .invokevirtual 43), (84, .ifCond .eq 7), (87, .iconst 1), (88, .goto 4), (91, .iconst 0), (92, .ireturn)]
def tbTr_readHitLine : xT := [(0, .aload_n 0), (1, .getfield 33), (4, .istore_n 1), (5, .aload_n 0), (6, .invokevirtual 111), (9, .ifCond .ne 5), (12, .iconst 0), (13, .ireturn), (14, .aload_n 0), (15, .getfield 114), (18, .istore_n 2), (19, .aload_n 0), (20, .getfield 117), (23, .istore_n 3), (24, .aload_n 0), (25, .getfield 15), (28, .aload_n 0), (29, .getfield 33), (32, .invokevirtual 50), (35, .bipush 71), (37, .if_icmp .ne 7), (40, .iconst 1), (41, .goto 4), (44, .iconst 0), (45, .istore 4), (47, .iload 4), (49, .ifCond .eq 21), (52, .aload_n 0), (53, .ldc 120), (55, .invokevirtual 43), (58, .ifCond .eq 10), (61, .aload_n 0), (62, .invokevirtual 111), (65, .ifCond .ne 5), (68, .iconst 0), (69, .ireturn), (70, .aload_n 0), (71, .ldc 77), (73, .invokevirtual 43), (76, .ifCond .ne 5), (79, .iconst 0), (80, .ireturn), (81, .iload_n 2), (82, .i2l), (83, .iload_n 3), (84, .i2l), (85, .invokestatic 122), (88, .ifCond .eq 23), (91, .aload_n 0), (92, .getfield 114), (95, .i2l), (96, .aload_n 0), (97, .getfield 117), (100, .i2l), (101, .invokestatic 122), (104, .ifCond .eq 7), (107, .iconst 1), (108, .goto 4), (111, .iconst 0), (112, .istore 5), (114, .iload_n 2), (115, .aload_n 0), (116, .getfield 114), (119, .if_icmp .ne 11), (122, .iload_n 3), (123, .aload_n 0), (124, .getfield 117), (127, .if_icmp .eq 7), (130, .iconst 1), (131, .goto 4), (134, .iconst 0), (135, .istore 6), (137, .iload 4), (139, .ifCond .eq 7), (142, .iconst 0), (143, .goto 7), (146, .aload_n 0), (147, .getfield 74), (150, .istore 7), (152, .iload 4), (154, .ifCond .eq 8), (157, .bipush 7), (159, .goto 7), (162, .aload_n 0), (163, .getfield 79), (166, .istore 8), (168, .aload_n 0), (169, .iload 5), (171, .ifCond .eq 50), (174, .iload 6), (176, .iload 4), (178, .if_icmp .ne 43), (181, .aload_n 0), (182, .getfield 19), (185, .new 126), (188, .dup), (189, .aload_n 0), (190, .getfield 9), (193, .iload_n 2), (194, .iload_n 3), (195, .aload_n 0), (196, .getfield 114), (199, .aload_n 0), (200, .getfield 117), (203, .iload 7), (205, .iload 8), (207, .invokespecial 128), (210, .invokevirtual 131), (213, .iconst (-1)), (214, .if_icmp .eq 7), (217, .iconst 1), (218, .goto 4), (221, .iconst 0), (222, .iload_n 1), (223, .invokevirtual 86), (226, .ireturn)]
def tbTr_readPlace : xT := [(0, .aload_n 0), (1, .bipush 88), (3, .iconst 1), (4, .invokevirtual 67), (7, .ifCond .ne 5), (10, .iconst 0), (11, .ireturn), (12, .aload_n 0), (13, .aload_n 0), (14, .getfield 71), (17, .putfield 114), (20, .aload_n 0), (21, .bipush 89), (23, .iconst 1), (24, .invokevirtual 67), (27, .ifCond .ne 5), (30, .iconst 0), (31, .ireturn), (32, .aload_n 0), (33, .aload_n 0), (34, .getfield 71), (37, .putfield 117), (40, .iconst 1), (41, .ireturn)]
def tbDa_isPlace : xT := [(0, .lload_n 0), (1, .ldc2_w 214), (4, .lcmp), (5, .ifCond .lt 31), (8, .lload_n 0), (9, .ldc2_w 216), (12, .lcmp), (13, .ifCond .gt 23), (16, .lload_n 2), (17, .ldc2_w 214), (20, .lcmp), (21, .ifCond .lt 15), (24, .lload_n 2), (25, .ldc2_w 216), (28, .lcmp), (29, .ifCond .gt 7), (32, .iconst 1), (33, .goto 4), (36, .iconst 0), (37, .ireturn)]
def tbDr_addHit : xT := [(0, .aload_n 0), (1, .aload_n 1), (2, .getfield 30), (5, .invokevirtual 33), (8, .astore_n 2), (9, .aload_n 2), (10, .ifnull 12), (13, .aload_n 0), (14, .getfield 37), (17, .bipush 60), (19, .if_icmp .lt 5), (22, .iconst (-1)), (23, .ireturn), (24, .aload_n 0), (25, .getfield 19), (28, .aload_n 0), (29, .getfield 37), (32, .aload_n 1), (33, .aastore), (34, .aload_n 2), (35, .aload_n 0), (36, .getfield 37), (39, .invokevirtual 40), (42, .aload_n 0), (43, .dup), (44, .getfield 37), (47, .iconst 1), (48, .iadd), (49, .putfield 37), (52, .aload_n 0), (53, .getfield 37), (56, .iconst 1), (57, .isub), (58, .ireturn)]
def tbDr_toolAt : xT := [(0, .iload_n 1), (1, .ifCond .lt 20), (4, .iload_n 1), (5, .aload_n 0), (6, .getfield 23), (9, .if_icmp .ge 12), (12, .aload_n 0), (13, .getfield 11), (16, .iload_n 1), (17, .aaload), (18, .goto 4), (21, .aconst_null), (22, .areturn)]
def tbTo_addHit : xT := [(0, .aload_n 0), (1, .getfield 14), (4, .iload_n 1), (5, .invokevirtual 31), (8, .pop), (9, .aload_n 0), (10, .iconst 0), (11, .putfield 35), (14, .return_)]
def tbTr_readChoiceLine : xT := [(0, .aload_n 0), (1, .getfield 33), (4, .istore_n 1), (5, .aload_n 0), (6, .bipush 84), (8, .iconst 0), (9, .invokevirtual 67), (12, .ifCond .eq 12), (15, .aload_n 0), (16, .ldc 77), (18, .invokevirtual 43), (21, .ifCond .ne 5), (24, .iconst 0), (25, .ireturn), (26, .aload_n 0), (27, .aload_n 0), (28, .getfield 71), (31, .putfield 9), (34, .aload_n 0), (35, .aload_n 0), (36, .getfield 19), (39, .aload_n 0), (40, .getfield 9), (43, .invokevirtual 107), (46, .ifnull 7), (49, .iconst 1), (50, .goto 4), (53, .iconst 0), (54, .iload_n 1), (55, .invokevirtual 86), (58, .ireturn)]
def tbRo_empty : xT := [(0, .aload_n 0), (1, .iconst 0), (2, .putfield 19), (5, .return_)]
def tbTw_forget : xT := [(0, .aload_n 0), (1, .iconst 0), (2, .putfield 24), (5, .return_)]
def tbDa_feed : xT := [(0, .iload_n 1), (1, .invokestatic 169), (4, .ifCond .eq 18), (7, .aload_n 0), (8, .getfield 34), (11, .iload_n 1), (12, .invokevirtual 109), (15, .ifCond .eq 7), (18, .iconst 1), (19, .goto 4), (22, .iconst 0), (23, .ireturn)]
def tbDa_isByte : xT := [(0, .iload_n 0), (1, .ifCond .lt 14), (4, .iload_n 0), (5, .sipush 256), (8, .if_icmp .ge 7), (11, .iconst 1), (12, .goto 4), (15, .iconst 0), (16, .ireturn)]
def tbDa_open : xT := [(0, .new 44), (3, .dup), (4, .invokespecial 46), (7, .astore_n 1), (8, .aload_n 1), (9, .aload_n 0), (10, .getfield 34), (13, .invokevirtual 182), (16, .istore_n 2), (17, .aload_n 0), (18, .getfield 34), (21, .invokevirtual 121), (24, .iload_n 2), (25, .ifCond .ne 5), (28, .iconst (-1)), (29, .ireturn), (30, .aload_n 0), (31, .aload_n 1), (32, .putfield 47), (35, .aload_n 0), (36, .getfield 47), (39, .getfield 186), (42, .ireturn)]
def tbFs_take : xT := [(0, .aload_n 1), (1, .iconst 0), (2, .invokevirtual 46), (5, .istore_n 2), (6, .iload_n 2), (7, .ifCond .lt 9), (10, .iload_n 2), (11, .bipush 8), (13, .if_icmp .le 5), (16, .iconst 0), (17, .ireturn), (18, .iconst 1), (19, .istore_n 3), (20, .iconst 0), (21, .istore 4), (23, .iload 4), (25, .iload_n 2), (26, .if_icmp .ge 23), (29, .aload_n 0), (30, .aload_n 1), (31, .iload_n 3), (32, .invokevirtual 51), (35, .istore_n 3), (36, .iload_n 3), (37, .iconst (-1)), (38, .if_icmp .ne 5), (41, .iconst 0), (42, .ireturn), (43, .iinc 4 1), (46, .goto (-23)), (49, .iload_n 3), (50, .aload_n 1), (51, .getfield 55), (54, .if_icmp .ne 7), (57, .iconst 1), (58, .goto 4), (61, .iconst 0), (62, .ireturn)]
def tbFs_takeFile : xT := [(0, .iload_n 2), (1, .iconst 3), (2, .iadd), (3, .istore_n 3), (4, .iload_n 3), (5, .aload_n 1), (6, .getfield 55), (9, .if_icmp .le 5), (12, .iconst (-1)), (13, .ireturn), (14, .aload_n 1), (15, .iload_n 2), (16, .iconst 1), (17, .iadd), (18, .invokestatic 56), (21, .istore 4), (23, .iload_n 3), (24, .iload 4), (26, .iadd), (27, .istore 5), (29, .iload 4), (31, .sipush 300), (34, .if_icmp .gt 14), (37, .iload 5), (39, .iconst 2), (40, .iadd), (41, .aload_n 1), (42, .getfield 55), (45, .if_icmp .le 5), (48, .iconst (-1)), (49, .ireturn), (50, .aload_n 0), (51, .aload_n 0), (52, .aload_n 1), (53, .iload_n 2), (54, .invokevirtual 46), (57, .invokevirtual 59), (60, .invokevirtual 32), (63, .astore 6), (65, .aload 6), (67, .ifnonnull 5), (70, .iconst (-1)), (71, .ireturn), (72, .iload_n 3), (73, .istore 7), (75, .iload 7), (77, .iload 5), (79, .if_icmp .ge 21), (82, .aload 6), (84, .aload_n 1), (85, .iload 7), (87, .invokevirtual 46), (90, .invokevirtual 62), (93, .pop), (94, .iinc 7 1), (97, .goto (-22)), (100, .aload 6), (102, .getfield 65), (105, .aload_n 1), (106, .iload 5), (108, .invokestatic 56), (111, .if_icmp .ne 10), (114, .iload 5), (116, .iconst 2), (117, .iadd), (118, .goto 4), (121, .iconst (-1)), (122, .ireturn)]
def tbFs_pair : xT := [(0, .aload_n 0), (1, .iload_n 1), (2, .invokevirtual 46), (5, .sipush 256), (8, .aload_n 0), (9, .iload_n 1), (10, .iconst 1), (11, .iadd), (12, .invokevirtual 46), (15, .imul), (16, .iadd), (17, .ireturn)]
def tbFs_add : xT := [(0, .iload_n 1), (1, .invokestatic 17), (4, .ifCond .eq 20), (7, .aload_n 0), (8, .iload_n 1), (9, .invokevirtual 21), (12, .ifnonnull 12), (15, .aload_n 0), (16, .getfield 25), (19, .bipush 8), (21, .if_icmp .lt 5), (24, .iconst (-1)), (25, .ireturn), (26, .aload_n 0), (27, .getfield 11), (30, .aload_n 0), (31, .getfield 25), (34, .new 9), (37, .dup), (38, .iload_n 1), (39, .invokespecial 29), (42, .aastore), (43, .aload_n 0), (44, .dup), (45, .getfield 25), (48, .iconst 1), (49, .iadd), (50, .putfield 25), (53, .aload_n 0), (54, .getfield 25), (57, .iconst 1), (58, .isub), (59, .ireturn)]
def tbDa_isRole : xT := [(0, .iload_n 0), (1, .ifCond .lt 13), (4, .iload_n 0), (5, .bipush 7), (7, .if_icmp .gt 7), (10, .iconst 1), (11, .goto 4), (14, .iconst 0), (15, .ireturn)]
def tbFs_withRole : xT := [(0, .iconst 0), (1, .istore_n 2), (2, .iload_n 2), (3, .aload_n 0), (4, .getfield 25), (7, .if_icmp .ge 29), (10, .aload_n 0), (11, .iload_n 2), (12, .invokevirtual 32), (15, .astore_n 3), (16, .aload_n 3), (17, .ifnull 13), (20, .aload_n 3), (21, .getfield 35), (24, .iload_n 1), (25, .if_icmp .ne 5), (28, .aload_n 3), (29, .areturn), (30, .iinc 2 1), (33, .goto (-31)), (36, .aconst_null), (37, .areturn)]
def tbFs_fileAt : xT := [(0, .iload_n 1), (1, .ifCond .lt 20), (4, .iload_n 1), (5, .aload_n 0), (6, .getfield 25), (9, .if_icmp .ge 12), (12, .aload_n 0), (13, .getfield 11), (16, .iload_n 1), (17, .aaload), (18, .goto 4), (21, .aconst_null), (22, .areturn)]
def tbSf_init : xT := [(0, .aload_n 0), (1, .invokespecial 3), (4, .aload_n 0), (5, .new 9), (8, .dup), (9, .sipush 300), (12, .invokespecial 11), (15, .putfield 14), (18, .aload_n 0), (19, .iload_n 1), (20, .putfield 20), (23, .return_)]
def tbSf_push : xT := [(0, .aload_n 0), (1, .getfield 14), (4, .iload_n 1), (5, .invokevirtual 24), (8, .ifCond .ne 5), (11, .iconst 0), (12, .ireturn), (13, .aload_n 0), (14, .aload_n 0), (15, .getfield 28), (18, .iload_n 1), (19, .aload_n 0), (20, .getfield 14), (23, .getfield 31), (26, .imul), (27, .iadd), (28, .ldc 34), (30, .irem), (31, .putfield 28), (34, .iconst 1), (35, .ireturn)]
def tbDa_agrees : xT := [(0, .aload_n 0), (1, .iconst 0), (2, .invokevirtual 187), (5, .iconst (-1)), (6, .if_icmp .ne 7), (9, .iconst 1), (10, .goto 4), (13, .iconst 0), (14, .ireturn)]
def tbDa_told : xT := [(0, .iload_n 1), (1, .ifCond .ge 5), (4, .iconst (-1)), (5, .ireturn), (6, .iload_n 1), (7, .istore_n 2), (8, .iconst 0), (9, .istore_n 3), (10, .iload_n 3), (11, .bipush 7), (13, .if_icmp .gt 57), (16, .aload_n 0), (17, .getfield 47), (20, .iload_n 3), (21, .invokevirtual 190), (24, .astore 4), (26, .aload 4), (28, .ifnull 36), (31, .aload 4), (33, .getfield 193), (36, .aload_n 0), (37, .getfield 21), (40, .aload_n 0), (41, .getfield 40), (44, .iconst 0), (45, .iload_n 3), (46, .invokevirtual 101), (49, .invokevirtual 196), (52, .ifCond .ne 12), (55, .iload_n 2), (56, .ifCond .ne 5), (59, .iload_n 3), (60, .ireturn), (61, .iinc 2 (-1)), (64, .iinc 3 1), (67, .goto (-57)), (70, .iconst (-1)), (71, .ireturn)]
def tbTw_textOf : xT := [(0, .aload_n 0), (1, .getfield 24), (4, .ifCond .eq 24), (7, .aload_n 0), (8, .getfield 28), (11, .iload_n 2), (12, .if_icmp .ne 16), (15, .aload_n 0), (16, .getfield 32), (19, .iload_n 3), (20, .if_icmp .ne 8), (23, .aload_n 0), (24, .getfield 14), (27, .areturn), (28, .aload_n 0), (29, .iconst 1), (30, .putfield 24), (33, .aload_n 0), (34, .iload_n 2), (35, .putfield 28), (38, .aload_n 0), (39, .iload_n 3), (40, .putfield 32), (43, .aload_n 0), (44, .getfield 14), (47, .invokevirtual 35), (50, .aload_n 0), (51, .aload_n 1), (52, .invokevirtual 38), (55, .iconst 0), (56, .istore 4), (58, .iload 4), (60, .aload_n 1), (61, .getfield 42), (64, .if_icmp .ge 41), (67, .aload_n 1), (68, .iload 4), (70, .invokevirtual 47), (73, .astore 5), (75, .aload 5), (77, .ifnull 22), (80, .aload_n 0), (81, .getfield 20), (84, .aload_n 1), (85, .aload 5), (87, .invokevirtual 51), (90, .aload_n 0), (91, .aload_n 1), (92, .aload 5), (94, .iload 4), (96, .invokevirtual 57), (99, .iinc 4 1), (102, .goto (-44)), (105, .aload_n 0), (106, .getfield 14), (109, .ldc 61), (111, .invokevirtual 63), (114, .aload_n 0), (115, .getfield 14), (118, .areturn)]
def tbTw_writeHead : xT := [(0, .aload_n 0), (1, .getfield 14), (4, .ldc 67), (6, .invokevirtual 63), (9, .aload_n 0), (10, .getfield 14), (13, .bipush 76), (15, .aload_n 0), (16, .getfield 28), (19, .invokevirtual 69), (22, .aload_n 0), (23, .getfield 14), (26, .bipush 44), (28, .aload_n 0), (29, .getfield 32), (32, .invokevirtual 69), (35, .aload_n 0), (36, .getfield 14), (39, .bipush 10), (41, .invokevirtual 73), (44, .pop), (45, .iconst 0), (46, .istore_n 2), (47, .iload_n 2), (48, .aload_n 1), (49, .getfield 42), (52, .if_icmp .ge 63), (55, .aload_n 1), (56, .iload_n 2), (57, .invokevirtual 47), (60, .astore_n 3), (61, .aload_n 3), (62, .ifnull 47), (65, .aload_n 0), (66, .getfield 14), (69, .bipush 84), (71, .iload_n 2), (72, .invokevirtual 69), (75, .aload_n 0), (76, .getfield 14), (79, .bipush 67), (81, .aload_n 3), (82, .getfield 77), (85, .invokevirtual 69), (88, .aload_n 0), (89, .getfield 14), (92, .aload_n 3), (93, .getfield 82), (96, .ifCond .eq 8), (99, .ldc 85), (101, .goto 5), (104, .ldc 87), (106, .invokevirtual 63), (109, .iinc 2 1), (112, .goto (-65)), (115, .aload_n 0), (116, .getfield 14), (119, .ldc 89), (121, .invokevirtual 63), (124, .return_)]
def tbRo_pushText : xT := [(0, .iconst 0), (1, .istore_n 2), (2, .iload_n 2), (3, .aload_n 1), (4, .invokevirtual 28), (7, .if_icmp .ge 19), (10, .aload_n 0), (11, .aload_n 1), (12, .iload_n 2), (13, .invokevirtual 34), (16, .invokevirtual 38), (19, .pop), (20, .iinc 2 1), (23, .goto (-21)), (26, .return_)]
def tbRo_pushPart : xT := [(0, .aload_n 0), (1, .iload_n 1), (2, .invokevirtual 38), (5, .pop), (6, .iload_n 2), (7, .ifCond .ge 10), (10, .aload_n 0), (11, .bipush 45), (13, .invokevirtual 38), (16, .pop), (17, .iload_n 2), (18, .invokestatic 42), (21, .istore_n 3), (22, .ldc 48), (24, .istore 4), (26, .iload 4), (28, .ifCond .le 40), (31, .iload_n 3), (32, .iload 4), (34, .if_icmp .ge 9), (37, .iload 4), (39, .iconst 1), (40, .if_icmp .ne 18), (43, .aload_n 0), (44, .bipush 48), (46, .iload_n 3), (47, .iload 4), (49, .idiv), (50, .bipush 10), (52, .irem), (53, .iadd), (54, .invokevirtual 38), (57, .pop), (58, .iload 4), (60, .bipush 10), (62, .idiv), (63, .istore 4), (65, .goto (-39)), (68, .return_)]
def tbJMa_abs : xT := [(0, .iload_n 0), (1, .ifCond .ge 8), (4, .iload_n 0), (5, .ineg), (6, .goto 4), (9, .iload_n 0), (10, .ireturn)]
def tbPl_plan : xT := [(0, .aload_n 2), (1, .getfield 35), (4, .ifCond .eq 4), (7, .return_), (8, .aload_n 2), (9, .invokevirtual 41), (12, .aload_n 0), (13, .aload_n 1), (14, .aload_n 2), (15, .invokevirtual 44), (18, .aload_n 0), (19, .getfield 48), (22, .bipush 8), (24, .if_icmp .gt 19), (27, .aload_n 0), (28, .invokevirtual 52), (31, .aload_n 0), (32, .invokevirtual 55), (35, .aload_n 0), (36, .aload_n 2), (37, .invokevirtual 58), (40, .goto 8), (43, .aload_n 0), (44, .aload_n 2), (45, .invokevirtual 62), (48, .return_)]
def tbTo_beginPlan : xT := [(0, .aload_n 0), (1, .getfield 20), (4, .invokevirtual 38), (7, .aload_n 0), (8, .lconst 0), (9, .putfield 41), (12, .aload_n 0), (13, .iconst 1), (14, .putfield 35), (17, .return_)]
def tbPl_gather : xT := [(0, .aload_n 0), (1, .iconst 0), (2, .putfield 48), (5, .iconst 0), (6, .istore_n 3), (7, .iload_n 3), (8, .aload_n 2), (9, .getfield 65), (12, .getfield 69), (15, .if_icmp .ge 68), (18, .aload_n 1), (19, .aload_n 2), (20, .getfield 65), (23, .iload_n 3), (24, .invokevirtual 72), (27, .invokevirtual 76), (30, .astore 4), (32, .aload 4), (34, .ifnull 43), (37, .aload_n 0), (38, .getfield 48), (41, .bipush 60), (43, .if_icmp .ge 34), (46, .aload_n 0), (47, .getfield 20), (50, .aload_n 0), (51, .getfield 48), (54, .aload 4), (56, .aastore), (57, .aload_n 0), (58, .getfield 24), (61, .aload_n 0), (62, .getfield 48), (65, .iconst 0), (66, .bastore), (67, .aload_n 0), (68, .dup), (69, .getfield 48), (72, .iconst 1), (73, .iadd), (74, .putfield 48), (77, .iinc 3 1), (80, .goto (-73)), (83, .return_)]
def tbDr_hitAt : xT := [(0, .iload_n 1), (1, .ifCond .lt 20), (4, .iload_n 1), (5, .aload_n 0), (6, .getfield 37), (9, .if_icmp .ge 12), (12, .aload_n 0), (13, .getfield 19), (16, .iload_n 1), (17, .aaload), (18, .goto 4), (21, .aconst_null), (22, .areturn)]
def tbPl_measureWays : xT := [(0, .iconst 0), (1, .istore_n 1), (2, .iload_n 1), (3, .aload_n 0), (4, .getfield 48), (7, .if_icmp .ge 73), (10, .iconst 0), (11, .istore_n 2), (12, .iload_n 2), (13, .aload_n 0), (14, .getfield 48), (17, .if_icmp .ge 35), (20, .aload_n 0), (21, .getfield 28), (24, .iload_n 2), (25, .bipush 8), (27, .imul), (28, .iload_n 1), (29, .iadd), (30, .aload_n 0), (31, .getfield 20), (34, .iload_n 2), (35, .aaload), (36, .aload_n 0), (37, .getfield 20), (40, .iload_n 1), (41, .aaload), (42, .invokevirtual 82), (45, .iastore), (46, .iinc 2 1), (49, .goto (-37)), (52, .aload_n 0), (53, .getfield 28), (56, .bipush 64), (58, .iload_n 1), (59, .iadd), (60, .aload_n 0), (61, .getfield 14), (64, .aload_n 0), (65, .getfield 20), (68, .iload_n 1), (69, .aaload), (70, .invokevirtual 82), (73, .iastore), (74, .iinc 1 1), (77, .goto (-75)), (80, .return_)]
def tbHi_wayTo : xT := [(0, .aload_n 1), (1, .getfield 13), (4, .aload_n 0), (5, .getfield 19), (8, .isub), (9, .invokestatic 31), (12, .aload_n 1), (13, .getfield 16), (16, .aload_n 0), (17, .getfield 22), (20, .isub), (21, .invokestatic 31), (24, .invokestatic 37), (27, .ireturn)]
def tbJMa_max : xT := [(0, .iload_n 0), (1, .iload_n 1), (2, .if_icmp .lt 7), (5, .iload_n 0), (6, .goto 4), (9, .iload_n 1), (10, .ireturn)]
def tbPl_measureRest : xT := [(0, .iconst 1), (1, .aload_n 0), (2, .getfield 48), (5, .ishl), (6, .iconst 1), (7, .isub), (8, .istore_n 1), (9, .iload_n 1), (10, .ifCond .le 55), (13, .iconst 0), (14, .istore_n 2), (15, .iload_n 2), (16, .aload_n 0), (17, .getfield 48), (20, .if_icmp .ge 39), (23, .iload_n 1), (24, .iload_n 2), (25, .ishr), (26, .iconst 1), (27, .iand), (28, .ifCond .eq 25), (31, .aload_n 0), (32, .iload_n 1), (33, .iload_n 2), (34, .invokevirtual 86), (37, .pop), (38, .aload_n 0), (39, .getfield 32), (42, .iload_n 1), (43, .bipush 8), (45, .imul), (46, .iload_n 2), (47, .iadd), (48, .aload_n 0), (49, .getfield 90), (52, .iastore), (53, .iinc 2 1), (56, .goto (-41)), (59, .iinc 1 (-1)), (62, .goto (-53)), (65, .return_)]
def tbPl_bestNext : xT := [(0, .iconst (-1)), (1, .istore_n 3), (2, .aload_n 0), (3, .iconst 0), (4, .putfield 90), (7, .iconst 0), (8, .istore 4), (10, .iload 4), (12, .aload_n 0), (13, .getfield 48), (16, .if_icmp .ge 77), (19, .iload_n 1), (20, .iload 4), (22, .ishr), (23, .iconst 1), (24, .iand), (25, .ifCond .ne 62), (28, .aload_n 0), (29, .getfield 32), (32, .iload_n 1), (33, .iconst 1), (34, .iload 4), (36, .ishl), (37, .ior), (38, .bipush 8), (40, .imul), (41, .iload 4), (43, .iadd), (44, .iaload), (45, .istore 5), (47, .aload_n 0), (48, .getfield 28), (51, .iload_n 2), (52, .bipush 8), (54, .imul), (55, .iload 4), (57, .iadd), (58, .iaload), (59, .iload 5), (61, .iadd), (62, .istore 6), (64, .iload_n 3), (65, .iconst (-1)), (66, .if_icmp .eq 12), (69, .iload 6), (71, .aload_n 0), (72, .getfield 90), (75, .if_icmp .ge 12), (78, .iload 4), (80, .istore_n 3), (81, .aload_n 0), (82, .iload 6), (84, .putfield 90), (87, .iinc 4 1), (90, .goto (-80)), (93, .iload_n 3), (94, .ireturn)]
def tbPl_planLeast : xT := [(0, .iconst 0), (1, .istore_n 2), (2, .bipush 8), (4, .istore_n 3), (5, .iconst 0), (6, .istore 4), (8, .iload 4), (10, .aload_n 0), (11, .getfield 48), (14, .if_icmp .ge 59), (17, .aload_n 0), (18, .iload_n 2), (19, .iload_n 3), (20, .invokevirtual 86), (23, .istore 5), (25, .iload 5), (27, .iconst (-1)), (28, .if_icmp .ne 4), (31, .return_), (32, .aload_n 1), (33, .aload_n 1), (34, .getfield 65), (37, .iload 5), (39, .invokevirtual 72), (42, .aload_n 0), (43, .getfield 28), (46, .iload_n 3), (47, .bipush 8), (49, .imul), (50, .iload 5), (52, .iadd), (53, .iaload), (54, .invokevirtual 93), (57, .iload_n 2), (58, .iconst 1), (59, .iload 5), (61, .ishl), (62, .ior), (63, .istore_n 2), (64, .iload 5), (66, .istore_n 3), (67, .iinc 4 1), (70, .goto (-62)), (73, .return_)]
def tbTo_planNext : xT := [(0, .aload_n 0), (1, .getfield 20), (4, .iload_n 1), (5, .invokevirtual 31), (8, .pop), (9, .aload_n 0), (10, .dup), (11, .getfield 41), (14, .iload_n 2), (15, .i2l), (16, .ladd), (17, .putfield 41), (20, .return_)]
def tbPl_planNearest : xT := [(0, .aload_n 0), (1, .getfield 14), (4, .astore_n 2), (5, .iconst 0), (6, .istore_n 3), (7, .iload_n 3), (8, .aload_n 0), (9, .getfield 48), (12, .if_icmp .ge 56), (15, .aload_n 0), (16, .aload_n 2), (17, .invokevirtual 97), (20, .istore 4), (22, .iload 4), (24, .iconst (-1)), (25, .if_icmp .ne 4), (28, .return_), (29, .aload_n 1), (30, .aload_n 1), (31, .getfield 65), (34, .iload 4), (36, .invokevirtual 72), (39, .aload_n 0), (40, .getfield 90), (43, .invokevirtual 93), (46, .aload_n 0), (47, .getfield 24), (50, .iload 4), (52, .iconst 1), (53, .bastore), (54, .aload_n 0), (55, .getfield 20), (58, .iload 4), (60, .aaload), (61, .astore_n 2), (62, .iinc 3 1), (65, .goto (-58)), (68, .return_)]
def tbPl_nearest : xT := [(0, .iconst (-1)), (1, .istore_n 2), (2, .aload_n 0), (3, .iconst 0), (4, .putfield 90), (7, .iconst 0), (8, .istore_n 3), (9, .iload_n 3), (10, .aload_n 0), (11, .getfield 48), (14, .if_icmp .ge 52), (17, .aload_n 0), (18, .getfield 24), (21, .iload_n 3), (22, .baload), (23, .ifCond .ne 37), (26, .aload_n 1), (27, .aload_n 0), (28, .getfield 20), (31, .iload_n 3), (32, .aaload), (33, .invokevirtual 82), (36, .istore 4), (38, .iload_n 2), (39, .iconst (-1)), (40, .if_icmp .eq 12), (43, .iload 4), (45, .aload_n 0), (46, .getfield 90), (49, .if_icmp .ge 11), (52, .iload_n 3), (53, .istore_n 2), (54, .aload_n 0), (55, .iload 4), (57, .putfield 90), (60, .iinc 3 1), (63, .goto (-54)), (66, .iload_n 2), (67, .ireturn)]
def tbTw_writeHits : xT := [(0, .iconst 0), (1, .istore 4), (3, .iconst 0), (4, .istore 5), (6, .iload 5), (8, .aload_n 2), (9, .getfield 91), (12, .getfield 94), (15, .if_icmp .ge 87), (18, .aload_n 1), (19, .aload_n 2), (20, .getfield 91), (23, .iload 5), (25, .invokevirtual 97), (28, .invokevirtual 101), (31, .astore 6), (33, .aload 6), (35, .ifnull 61), (38, .aload 6), (40, .getfield 105), (43, .aload_n 0), (44, .getfield 28), (47, .if_icmp .ne 49), (50, .aload 6), (52, .getfield 110), (55, .aload_n 0), (56, .getfield 32), (59, .if_icmp .ne 37), (62, .iload 4), (64, .ifCond .ne 26), (67, .aload_n 0), (68, .getfield 14), (71, .bipush 84), (73, .iload_n 3), (74, .invokevirtual 69), (77, .aload_n 0), (78, .getfield 14), (81, .bipush 10), (83, .invokevirtual 73), (86, .pop), (87, .iconst 1), (88, .istore 4), (90, .aload_n 0), (91, .aload 6), (93, .invokevirtual 113), (96, .iinc 5 1), (99, .goto (-93)), (102, .return_)]
def tbTw_writeHit : xT := [(0, .aload_n 0), (1, .getfield 14), (4, .bipush 88), (6, .aload_n 1), (7, .getfield 117), (10, .invokevirtual 69), (13, .aload_n 0), (14, .getfield 14), (17, .bipush 89), (19, .aload_n 1), (20, .getfield 120), (23, .invokevirtual 69), (26, .aload_n 1), (27, .invokevirtual 123), (30, .ifCond .eq 38), (33, .aload_n 0), (34, .getfield 14), (37, .ldc 127), (39, .invokevirtual 63), (42, .aload_n 0), (43, .getfield 14), (46, .bipush 88), (48, .aload_n 1), (49, .getfield 129), (52, .invokevirtual 69), (55, .aload_n 0), (56, .getfield 14), (59, .bipush 89), (61, .aload_n 1), (62, .getfield 132), (65, .invokevirtual 69), (68, .aload_n 0), (69, .getfield 14), (72, .bipush 10), (74, .invokevirtual 73), (77, .pop), (78, .return_)]
def tbHi_isSlot : xT := [(0, .aload_n 0), (1, .getfield 13), (4, .aload_n 0), (5, .getfield 19), (8, .if_icmp .ne 14), (11, .aload_n 0), (12, .getfield 16), (15, .aload_n 0), (16, .getfield 22), (19, .if_icmp .eq 7), (22, .iconst 1), (23, .goto 4), (26, .iconst 0), (27, .ireturn)]
def tbRo_same : xT := [(0, .aload_n 0), (1, .getfield 19), (4, .aload_n 1), (5, .getfield 19), (8, .if_icmp .eq 5), (11, .iconst 0), (12, .ireturn), (13, .iconst 0), (14, .istore_n 2), (15, .iload_n 2), (16, .aload_n 0), (17, .getfield 19), (20, .if_icmp .ge 24), (23, .aload_n 0), (24, .iload_n 2), (25, .invokevirtual 49), (28, .aload_n 1), (29, .iload_n 2), (30, .invokevirtual 49), (33, .if_icmp .eq 5), (36, .iconst 0), (37, .ireturn), (38, .iinc 2 1), (41, .goto (-26)), (44, .iconst 1), (45, .ireturn)]
def tbDa_clear : xT := [(0, .aload_n 0), (1, .new 37), (4, .dup), (5, .invokespecial 39), (8, .putfield 40), (11, .aload_n 0), (12, .new 44), (15, .dup), (16, .invokespecial 46), (19, .putfield 47), (22, .aload_n 0), (23, .getfield 30), (26, .invokevirtual 121), (29, .aload_n 0), (30, .getfield 34), (33, .invokevirtual 121), (36, .aload_n 0), (37, .getfield 21), (40, .invokevirtual 62), (43, .return_)]
def tbLa_tool : xT := [(0, .aload 4), (2, .iconst 0), (3, .aload_n 0), (4, .lload_n 1), (5, .iload_n 3), (6, .invokevirtual 7), (9, .i2l), (10, .lastore), (11, .goto 7), (14, .astore 5), (16, .iconst 1), (17, .ireturn), (18, .iconst 0), (19, .ireturn)]
def tbDa_tool : xT := [(0, .lload_n 1), (1, .invokestatic 51), (4, .ifCond .ne 13), (7, .new 55), (10, .dup), (11, .ldc 57), (13, .invokespecial 59), (16, .athrow), (17, .aload_n 0), (18, .getfield 21), (21, .invokevirtual 62), (24, .aload_n 0), (25, .getfield 40), (28, .lload_n 1), (29, .l2i), (30, .iload_n 3), (31, .invokevirtual 65), (34, .ireturn)]
def tbJTh_init : xT := [(0, .aload_n 0), (1, .invokespecial 1), (4, .aload_n 0), (5, .aload_n 0), (6, .putfield 7), (9, .aload_n 0), (10, .getstatic 13), (13, .putfield 17), (16, .aload_n 0), (17, .getstatic 20), (20, .putfield 24), (23, .aload_n 0), (24, .invokevirtual 27), (27, .pop), (28, .return_)]
def tbJIa_init : xT := [(0, .aload_n 0), (1, .aload_n 1), (2, .invokespecial 7), (5, .return_)]
def tbJRe_init : xT := [(0, .aload_n 0), (1, .aload_n 1), (2, .invokespecial 7), (5, .return_)]
def tbJEx_init : xT := [(0, .aload_n 0), (1, .aload_n 1), (2, .invokespecial 7), (5, .return_)]
def tbJTh_init2 : xT := [(0, .aload_n 0), (1, .invokespecial 1), (4, .aload_n 0), (5, .aload_n 0), (6, .putfield 7), (9, .aload_n 0), (10, .getstatic 13), (13, .putfield 17), (16, .aload_n 0), (17, .getstatic 20), (20, .putfield 24), (23, .aload_n 0), (24, .invokevirtual 27), (27, .pop), (28, .aload_n 0), (29, .aload_n 1), (30, .putfield 31), (33, .return_)]
def tbLa_hole : xT := [(0, .aload 8), (2, .iconst 0), (3, .aload_n 0), (4, .iload_n 1), (5, .lload_n 2), (6, .lload 4), (8, .iload 6), (10, .iload 7), (12, .invokevirtual 15), (15, .i2l), (16, .lastore), (17, .goto 11), (20, .astore 9), (22, .iconst 1), (23, .ireturn), (24, .astore 9), (26, .iconst 2), (27, .ireturn), (28, .iconst 0), (29, .ireturn)]
def tbDa_hole : xT := [(0, .aload_n 0), (1, .iload_n 1), (2, .invokevirtual 69), (5, .pop), (6, .iload 6), (8, .invokestatic 73), (11, .ifCond .eq 11), (14, .iload 7), (16, .invokestatic 73), (19, .ifCond .ne 13), (22, .new 77), (25, .dup), (26, .ldc 79), (28, .invokespecial 81), (31, .athrow), (32, .lload_n 2), (33, .lload 4), (35, .invokestatic 82), (38, .ifCond .eq 10), (41, .iload 6), (43, .iload 7), (45, .if_icmp .le 13), (48, .new 55), (51, .dup), (52, .ldc 86), (54, .invokespecial 59), (57, .athrow), (58, .aload_n 0), (59, .getfield 21), (62, .invokevirtual 62), (65, .aload_n 0), (66, .getfield 40), (69, .new 88), (72, .dup), (73, .iload_n 1), (74, .lload_n 2), (75, .l2i), (76, .lload 4), (78, .l2i), (79, .lload_n 2), (80, .l2i), (81, .lload 4), (83, .l2i), (84, .iload 6), (86, .iload 7), (88, .invokespecial 90), (91, .invokevirtual 93), (94, .ireturn)]
def tbDa_knownTool : xT := [(0, .aload_n 0), (1, .getfield 40), (4, .iload_n 1), (5, .invokevirtual 202), (8, .astore_n 2), (9, .aload_n 2), (10, .ifnonnull 13), (13, .new 77), (16, .dup), (17, .ldc 205), (19, .invokespecial 81), (22, .athrow), (23, .aload_n 2), (24, .areturn)]
def tbJIo_init : xT := [(0, .aload_n 0), (1, .aload_n 1), (2, .invokespecial 7), (5, .return_)]
def tbLa_slot : xT := [(0, .aload 10), (2, .iconst 0), (3, .aload_n 0), (4, .iload_n 1), (5, .lload_n 2), (6, .lload 4), (8, .lload 6), (10, .lload 8), (12, .invokevirtual 21), (15, .i2l), (16, .lastore), (17, .goto 11), (20, .astore 11), (22, .iconst 1), (23, .ireturn), (24, .astore 11), (26, .iconst 2), (27, .ireturn), (28, .iconst 0), (29, .ireturn)]
def tbDa_slot : xT := [(0, .aload_n 0), (1, .iload_n 1), (2, .invokevirtual 69), (5, .pop), (6, .lload_n 2), (7, .lload 4), (9, .invokestatic 82), (12, .ifCond .eq 28), (15, .lload 6), (17, .lload 8), (19, .invokestatic 82), (22, .ifCond .eq 18), (25, .lload_n 2), (26, .lload 6), (28, .lcmp), (29, .ifCond .ne 21), (32, .lload 4), (34, .lload 8), (36, .lcmp), (37, .ifCond .ne 13), (40, .new 55), (43, .dup), (44, .ldc 97), (46, .invokespecial 59), (49, .athrow), (50, .aload_n 0), (51, .getfield 21), (54, .invokevirtual 62), (57, .aload_n 0), (58, .getfield 40), (61, .new 88), (64, .dup), (65, .iload_n 1), (66, .lload_n 2), (67, .l2i), (68, .lload 4), (70, .l2i), (71, .lload 6), (73, .l2i), (74, .lload 8), (76, .l2i), (77, .iconst 0), (78, .bipush 7), (80, .invokespecial 90), (83, .invokevirtual 93), (86, .ireturn)]
def tbLa_write : xT := [(0, .aload_n 3), (1, .iconst 0), (2, .aload_n 0), (3, .iload_n 1), (4, .iload_n 2), (5, .invokevirtual 25), (8, .i2l), (9, .lastore), (10, .goto 7), (13, .astore 4), (15, .iconst 1), (16, .ireturn), (17, .iconst 0), (18, .ireturn)]
def tbDa_write : xT := [(0, .iload_n 1), (1, .bipush 10), (3, .idiv), (4, .istore_n 3), (5, .iload_n 1), (6, .bipush 10), (8, .irem), (9, .istore 4), (11, .iload_n 2), (12, .ifCond .lt 24), (15, .iload_n 3), (16, .invokestatic 73), (19, .ifCond .eq 17), (22, .iload 4), (24, .invokestatic 73), (27, .ifCond .eq 9), (30, .iload_n 3), (31, .iload 4), (33, .if_icmp .le 13), (36, .new 77), (39, .dup), (40, .ldc 99), (42, .invokespecial 81), (45, .athrow), (46, .aload_n 0), (47, .getfield 21), (50, .aload_n 0), (51, .getfield 40), (54, .iload_n 3), (55, .iload 4), (57, .invokevirtual 101), (60, .iload_n 2), (61, .invokevirtual 105), (64, .ireturn)]
def tbLa_at : xT := [(0, .aload_n 3), (1, .iconst 0), (2, .aload_n 0), (3, .iload_n 1), (4, .iload_n 2), (5, .invokevirtual 29), (8, .lastore), (9, .goto 7), (12, .astore 4), (14, .iconst 1), (15, .ireturn), (16, .iconst 0), (17, .ireturn)]
def tbDa_at : xT := [(0, .aload_n 0), (1, .getfield 40), (4, .iload_n 1), (5, .invokevirtual 128), (8, .astore_n 3), (9, .aload_n 3), (10, .ifnull 13), (13, .iload_n 2), (14, .ifCond .lt 9), (17, .iload_n 2), (18, .bipush 7), (20, .if_icmp .le 13), (23, .new 77), (26, .dup), (27, .ldc 132), (29, .invokespecial 81), (32, .athrow), (33, .aload_n 3), (34, .iload_n 2), (35, .invokevirtual 134), (38, .lreturn)]
def tbHi_part : xT := [(0, .iload_n 1), (44, .aload_n 0), (45, .getfield 7), (48, .i2l), (49, .lreturn), (50, .aload_n 0), (51, .getfield 13), (54, .i2l), (55, .lreturn), (56, .aload_n 0), (57, .getfield 16), (60, .i2l), (61, .lreturn), (62, .aload_n 0), (63, .getfield 19), (66, .i2l), (67, .lreturn), (68, .aload_n 0), (69, .getfield 22), (72, .i2l), (73, .lreturn), (74, .aload_n 0), (75, .getfield 25), (78, .i2l), (79, .lreturn), (80, .aload_n 0), (81, .getfield 28), (84, .i2l), (85, .lreturn), (86, .aload_n 0), (87, .invokevirtual 41), (90, .ifCond .eq 7), (93, .lconst 1), (94, .goto 4), (97, .lconst 0), (98, .lreturn)]
def tbLa_order : xT := [(0, .aload_n 3), (1, .iconst 0), (2, .aload_n 0), (3, .iload_n 1), (4, .iload_n 2), (5, .invokevirtual 33), (8, .i2l), (9, .lastore), (10, .goto 7), (13, .astore 4), (15, .iconst 1), (16, .ireturn), (17, .iconst 0), (18, .ireturn)]
def tbDa_order : xT := [(0, .aload_n 0), (1, .iload_n 1), (2, .invokevirtual 69), (5, .astore_n 3), (6, .aload_n 0), (7, .getfield 10), (10, .aload_n 0), (11, .getfield 40), (14, .aload_n 3), (15, .invokevirtual 138), (18, .aload_n 3), (19, .getfield 142), (22, .iload_n 2), (23, .invokevirtual 105), (26, .ireturn)]
def tbLa_travel : xT := [(0, .aload_n 2), (1, .iconst 0), (2, .aload_n 0), (3, .iload_n 1), (4, .invokevirtual 36), (7, .lastore), (8, .goto 6), (11, .astore_n 3), (12, .iconst 1), (13, .ireturn), (14, .iconst 0), (15, .ireturn)]
def tbDa_travel : xT := [(0, .aload_n 0), (1, .iload_n 1), (2, .invokevirtual 69), (5, .astore_n 2), (6, .aload_n 0), (7, .getfield 10), (10, .aload_n 0), (11, .getfield 40), (14, .aload_n 2), (15, .invokevirtual 138), (18, .aload_n 2), (19, .getfield 147), (22, .lreturn)]
def tbLa_proved : xT := [(0, .aload_n 2), (1, .iconst 0), (2, .aload_n 0), (3, .iload_n 1), (4, .invokevirtual 40), (7, .ifCond .eq 7), (10, .lconst 1), (11, .goto 4), (14, .lconst 0), (15, .lastore), (16, .goto 6), (19, .astore_n 3), (20, .iconst 1), (21, .ireturn), (22, .iconst 0), (23, .ireturn)]
def tbDa_proved : xT := [(0, .aload_n 0), (1, .iload_n 1), (2, .invokevirtual 69), (5, .getfield 151), (8, .getfield 154), (11, .bipush 8), (13, .if_icmp .gt 7), (16, .iconst 1), (17, .goto 4), (20, .iconst 0), (21, .ireturn)]
def tbLa_file : xT := [(0, .aload_n 2), (1, .iconst 0), (2, .aload_n 0), (3, .iload_n 1), (4, .invokevirtual 44), (7, .i2l), (8, .lastore), (9, .goto 6), (12, .astore_n 3), (13, .iconst 1), (14, .ireturn), (15, .iconst 0), (16, .ireturn)]
def tbDa_file : xT := [(0, .iload_n 1), (1, .invokestatic 157), (4, .ifCond .ne 13), (7, .new 55), (10, .dup), (11, .ldc 160), (13, .invokespecial 59), (16, .athrow), (17, .aload_n 0), (18, .getfield 47), (21, .iload_n 1), (22, .invokevirtual 162), (25, .ireturn)]
def tbLa_byteOf : xT := [(0, .aload_n 3), (1, .iconst 0), (2, .aload_n 0), (3, .iload_n 1), (4, .iload_n 2), (5, .invokevirtual 48), (8, .ifCond .eq 7), (11, .lconst 1), (12, .goto 4), (15, .lconst 0), (16, .lastore), (17, .goto 11), (20, .astore 4), (22, .iconst 1), (23, .ireturn), (24, .astore 4), (26, .iconst 2), (27, .ireturn), (28, .iconst 0), (29, .ireturn)]
def tbDa_byteOf : xT := [(0, .aload_n 0), (1, .iload_n 1), (2, .invokevirtual 165), (5, .astore_n 3), (6, .iload_n 2), (7, .invokestatic 169), (10, .ifCond .ne 13), (13, .new 55), (16, .dup), (17, .ldc 172), (19, .invokespecial 59), (22, .athrow), (23, .aload_n 3), (24, .iload_n 2), (25, .invokevirtual 174), (28, .ireturn)]
def tbDa_knownFile : xT := [(0, .aload_n 0), (1, .getfield 47), (4, .iload_n 1), (5, .invokevirtual 207), (8, .astore_n 2), (9, .aload_n 2), (10, .ifnonnull 13), (13, .new 77), (16, .dup), (17, .ldc 210), (19, .invokespecial 81), (22, .athrow), (23, .aload_n 2), (24, .areturn)]
def tbLa_archive : xT := [(0, .aload_n 2), (1, .iconst 0), (2, .aload_n 0), (3, .iload_n 1), (4, .invokevirtual 52), (7, .i2l), (8, .lastore), (9, .goto 6), (12, .astore_n 3), (13, .iconst 1), (14, .ireturn), (15, .iconst 0), (16, .ireturn)]
def tbDa_archive : xT := [(0, .iload_n 1), (1, .ifCond .ge 13), (4, .new 77), (7, .dup), (8, .ldc 177), (10, .invokespecial 81), (13, .athrow), (14, .aload_n 0), (15, .getfield 47), (18, .iload_n 1), (19, .invokevirtual 179), (22, .ireturn)]
def tbFs_joined : xT := [(0, .iload_n 1), (1, .ifCond .ne 8), (4, .aload_n 0), (5, .getfield 25), (8, .ireturn), (9, .iload_n 1), (10, .iconst 1), (11, .isub), (12, .istore_n 2), (13, .iconst 0), (14, .istore_n 3), (15, .iload_n 3), (16, .aload_n 0), (17, .getfield 25), (20, .if_icmp .ge 45), (23, .aload_n 0), (24, .iload_n 3), (25, .invokevirtual 32), (28, .astore 4), (30, .aload 4), (32, .ifnull 27), (35, .iload_n 2), (36, .aload 4), (38, .invokevirtual 38), (41, .if_icmp .ge 10), (44, .aload 4), (46, .iload_n 2), (47, .invokevirtual 42), (50, .ireturn), (51, .iload_n 2), (52, .aload 4), (54, .invokevirtual 38), (57, .isub), (58, .istore_n 2), (59, .iinc 3 1), (62, .goto (-47)), (65, .iconst (-1)), (66, .ireturn)]
def tbSf_joinedSize : xT := [(0, .iconst 3), (1, .aload_n 0), (2, .getfield 14), (5, .getfield 31), (8, .iadd), (9, .iconst 2), (10, .iadd), (11, .ireturn)]
def tbSf_joined : xT := [(0, .aload_n 0), (1, .getfield 14), (4, .getfield 31), (7, .istore_n 2), (8, .iload_n 1), (36, .aload_n 0), (37, .getfield 20), (40, .ireturn), (41, .iload_n 2), (42, .sipush 256), (45, .irem), (46, .ireturn), (47, .iload_n 2), (48, .sipush 256), (51, .idiv), (52, .ireturn), (53, .iload_n 1), (54, .iconst 3), (55, .isub), (56, .istore_n 3), (57, .iload_n 3), (58, .iload_n 2), (59, .if_icmp .ge 12), (62, .aload_n 0), (63, .getfield 14), (66, .iload_n 3), (67, .invokevirtual 35), (70, .ireturn), (71, .iload_n 3), (72, .iload_n 2), (73, .if_icmp .ne 14), (76, .aload_n 0), (77, .getfield 28), (80, .sipush 256), (83, .irem), (84, .goto 11), (87, .aload_n 0), (88, .getfield 28), (91, .sipush 256), (94, .idiv), (95, .ireturn)]
def tbLa_sum : xT := [(0, .aload_n 2), (1, .iconst 0), (2, .aload_n 0), (3, .iload_n 1), (4, .invokevirtual 55), (7, .lastore), (8, .goto 6), (11, .astore_n 3), (12, .iconst 1), (13, .ireturn), (14, .iconst 0), (15, .ireturn)]
def tbDa_sum : xT := [(0, .aload_n 0), (1, .iload_n 1), (2, .invokevirtual 165), (5, .getfield 199), (8, .i2l), (9, .lreturn)]
def tbMo_init : xT := [(0, .aload_n 0), (1, .invokespecial 1), (4, .aload_n 0), (5, .iconst 2), (6, .newarray .int), (8, .putfield 7), (11, .aload_n 0), (12, .bipush 20), (14, .newarray .long), (16, .putfield 13), (19, .aload_n 0), (20, .bipush 20), (22, .newarray .boolean), (24, .putfield 17), (27, .aload_n 0), (28, .iconst 2), (29, .newarray .int), (31, .putfield 21), (34, .aload_n 0), (35, .bipush 120), (37, .newarray .int), (39, .putfield 24), (42, .aload_n 0), (43, .bipush 120), (45, .newarray .long), (47, .putfield 27), (50, .aload_n 0), (51, .bipush 120), (53, .newarray .long), (55, .putfield 30), (58, .aload_n 0), (59, .bipush 120), (61, .newarray .long), (63, .putfield 33), (66, .aload_n 0), (67, .bipush 120), (69, .newarray .long), (71, .putfield 36), (74, .aload_n 0), (75, .bipush 120), (77, .newarray .int), (79, .putfield 39), (82, .aload_n 0), (83, .bipush 120), (85, .newarray .int), (87, .putfield 42), (90, .aload_n 0), (91, .bipush 120), (93, .newarray .boolean), (95, .putfield 45), (98, .aload_n 0), (99, .bipush 60), (101, .newarray .int), (103, .putfield 48), (106, .aload_n 0), (107, .bipush 60), (109, .newarray .int), (111, .putfield 51), (114, .aload_n 0), (115, .sipush 2048), (118, .newarray .long), (120, .putfield 54), (123, .aload_n 0), (124, .sipush 3000), (127, .newarray .int), (129, .putfield 57), (132, .aload_n 0), (133, .sipush 2000), (136, .newarray .int), (138, .putfield 60), (141, .aload_n 0), (142, .bipush 8), (144, .newarray .int), (146, .putfield 63), (149, .aload_n 0), (150, .bipush 8), (152, .newarray .int), (154, .putfield 66), (157, .aload_n 0), (158, .sipush 2400), (161, .newarray .int), (163, .putfield 69), (166, .aload_n 0), (167, .sipush 2600), (170, .newarray .int), (172, .putfield 72), (175, .return_)]
def tbMo_thrown : xT := [(0, .aload_n 0), (1, .getfield 75), (4, .ireturn)]
def tbMo_clear : xT := [(0, .aload_n 0), (1, .iconst 0), (2, .putfield 75), (5, .aload_n 0), (6, .getfield 7), (9, .iconst 0), (10, .iconst 0), (11, .iastore), (12, .aload_n 0), (13, .getfield 21), (16, .iconst 0), (17, .iconst 0), (18, .iastore), (19, .aload_n 0), (20, .iconst 0), (21, .putfield 79), (24, .aload_n 0), (25, .iconst 0), (26, .putfield 82), (29, .aload_n 0), (30, .iconst 0), (31, .putfield 85), (34, .return_)]
def tbMo_tool : xT := [(0, .aload_n 0), (1, .lload_n 1), (2, .invokestatic 96), (5, .ifCond .eq 7), (8, .iconst 0), (9, .goto 4), (12, .iconst 1), (13, .putfield 75), (16, .aload_n 0), (17, .getfield 75), (20, .ifCond .eq 5), (23, .iconst 0), (24, .ireturn), (25, .aload_n 0), (26, .getfield 7), (29, .iconst 0), (30, .iaload), (31, .bipush 10), (33, .if_icmp .ne 7), (36, .iconst (-1)), (37, .goto 10), (40, .aload_n 0), (41, .iconst 0), (42, .lload_n 1), (43, .iload_n 3), (44, .invokevirtual 100), (47, .ireturn)]
def tbMo_isDiameter : xT := [(0, .lload_n 0), (1, .lconst 1), (2, .lcmp), (3, .ifCond .lt 15), (6, .lload_n 0), (7, .ldc2_w 94), (10, .lcmp), (11, .ifCond .gt 7), (14, .iconst 1), (15, .goto 4), (18, .iconst 0), (19, .ireturn)]
def tbMo_addTool : xT := [(0, .aload_n 0), (1, .getfield 13), (4, .bipush 10), (6, .iload_n 1), (7, .imul), (8, .aload_n 0), (9, .getfield 7), (12, .iload_n 1), (13, .iaload), (14, .iadd), (15, .lload_n 2), (16, .lastore), (17, .aload_n 0), (18, .getfield 17), (21, .bipush 10), (23, .iload_n 1), (24, .imul), (25, .aload_n 0), (26, .getfield 7), (29, .iload_n 1), (30, .iaload), (31, .iadd), (32, .iload 4), (34, .bastore), (35, .aload_n 0), (36, .getfield 7), (39, .iload_n 1), (40, .dup2), (41, .iaload), (42, .iconst 1), (43, .iadd), (44, .iastore), (45, .aload_n 0), (46, .getfield 7), (49, .iload_n 1), (50, .iaload), (51, .iconst 1), (52, .isub), (53, .ireturn)]
def tbMo_hole : xT := [(0, .aload_n 0), (1, .aload_n 0), (2, .iload_n 1), (3, .invokevirtual 104), (6, .ifCond .eq 21), (9, .iload 6), (11, .i2l), (12, .invokestatic 108), (15, .ifCond .eq 12), (18, .iload 7), (20, .i2l), (21, .invokestatic 108), (24, .ifCond .ne 7), (27, .iconst 1), (28, .goto 24), (31, .lload_n 2), (32, .lload 4), (34, .invokestatic 111), (37, .ifCond .eq 14), (40, .iload 6), (42, .iload 7), (44, .if_icmp .gt 7), (47, .iconst 0), (48, .goto 4), (51, .iconst 2), (52, .putfield 75), (55, .aload_n 0), (56, .getfield 75), (59, .ifCond .eq 5), (62, .iconst 0), (63, .ireturn), (64, .aload_n 0), (65, .getfield 21), (68, .iconst 0), (69, .iaload), (70, .bipush 60), (72, .if_icmp .ne 7), (75, .iconst (-1)), (76, .goto 20), (79, .aload_n 0), (80, .iconst 0), (81, .iload_n 1), (82, .lload_n 2), (83, .lload 4), (85, .lload_n 2), (86, .lload 4), (88, .iload 6), (90, .iload 7), (92, .iconst 0), (93, .invokevirtual 115), (96, .ireturn)]
def tbMo_isTool : xT := [(0, .iload_n 1), (1, .ifCond .lt 17), (4, .iload_n 1), (5, .aload_n 0), (6, .getfield 7), (9, .iconst 0), (10, .iaload), (11, .if_icmp .ge 7), (14, .iconst 1), (15, .goto 4), (18, .iconst 0), (19, .ireturn)]
def tbMo_isLayer : xT := [(0, .lload_n 0), (1, .lconst 0), (2, .lcmp), (3, .ifCond .lt 15), (6, .lload_n 0), (7, .ldc2_w 92), (10, .lcmp), (11, .ifCond .ge 7), (14, .iconst 1), (15, .goto 4), (18, .iconst 0), (19, .ireturn)]
def tbMo_isPlace : xT := [(0, .lload_n 0), (1, .ldc2_w 88), (4, .lcmp), (5, .ifCond .lt 31), (8, .lload_n 0), (9, .ldc2_w 90), (12, .lcmp), (13, .ifCond .gt 23), (16, .lload_n 2), (17, .ldc2_w 88), (20, .lcmp), (21, .ifCond .lt 15), (24, .lload_n 2), (25, .ldc2_w 90), (28, .lcmp), (29, .ifCond .gt 7), (32, .iconst 1), (33, .goto 4), (36, .iconst 0), (37, .ireturn)]
def tbMo_addHit : xT := [(0, .bipush 60), (2, .iload_n 1), (3, .imul), (4, .aload_n 0), (5, .getfield 21), (8, .iload_n 1), (9, .iaload), (10, .iadd), (11, .istore 14), (13, .aload_n 0), (14, .getfield 24), (17, .iload 14), (19, .iload_n 2), (20, .iastore), (21, .aload_n 0), (22, .getfield 27), (25, .iload 14), (27, .lload_n 3), (28, .lastore), (29, .aload_n 0), (30, .getfield 30), (33, .iload 14), (35, .lload 5), (37, .lastore), (38, .aload_n 0), (39, .getfield 33), (42, .iload 14), (44, .lload 7), (46, .lastore), (47, .aload_n 0), (48, .getfield 36), (51, .iload 14), (53, .lload 9), (55, .lastore), (56, .aload_n 0), (57, .getfield 39), (60, .iload 14), (62, .iload 11), (64, .iastore), (65, .aload_n 0), (66, .getfield 42), (69, .iload 14), (71, .iload 12), (73, .iastore), (74, .aload_n 0), (75, .getfield 45), (78, .iload 14), (80, .iload 13), (82, .bastore), (83, .aload_n 0), (84, .getfield 21), (87, .iload_n 1), (88, .dup2), (89, .iaload), (90, .iconst 1), (91, .iadd), (92, .iastore), (93, .aload_n 0), (94, .getfield 21), (97, .iload_n 1), (98, .iaload), (99, .iconst 1), (100, .isub), (101, .ireturn)]
def tbMo_slot : xT := [(0, .lload_n 2), (1, .lload 4), (3, .invokestatic 111), (6, .ifCond .eq 32), (9, .lload 6), (11, .lload 8), (13, .invokestatic 111), (16, .ifCond .eq 22), (19, .lload_n 2), (20, .lload 6), (22, .lcmp), (23, .ifCond .ne 11), (26, .lload 4), (28, .lload 8), (30, .lcmp), (31, .ifCond .eq 7), (34, .iconst 1), (35, .goto 4), (38, .iconst 0), (39, .istore 10), (41, .aload_n 0), (42, .aload_n 0), (43, .iload_n 1), (44, .invokevirtual 104), (47, .ifCond .ne 7), (50, .iconst 1), (51, .goto 13), (54, .iload 10), (56, .ifCond .eq 7), (59, .iconst 0), (60, .goto 4), (63, .iconst 2), (64, .putfield 75), (67, .aload_n 0), (68, .getfield 75), (71, .ifCond .eq 5), (74, .iconst 0), (75, .ireturn), (76, .aload_n 0), (77, .getfield 21), (80, .iconst 0), (81, .iaload), (82, .bipush 60), (84, .if_icmp .ne 7), (87, .iconst (-1)), (88, .goto 20), (91, .aload_n 0), (92, .iconst 0), (93, .iload_n 1), (94, .lload_n 2), (95, .lload 4), (97, .lload 6), (99, .lload 8), (101, .iconst 0), (102, .bipush 7), (104, .iconst 1), (105, .invokevirtual 115), (108, .ireturn)]
def tbMo_at : xT := [(0, .aload_n 0), (1, .iload_n 1), (2, .ifCond .lt 27), (5, .iload_n 1), (6, .aload_n 0), (7, .getfield 21), (10, .iconst 0), (11, .iaload), (12, .if_icmp .ge 17), (15, .iload_n 2), (16, .ifCond .lt 13), (19, .iload_n 2), (20, .bipush 8), (22, .if_icmp .ge 7), (25, .iconst 0), (26, .goto 4), (29, .iconst 1), (30, .putfield 75), (33, .aload_n 0), (34, .getfield 75), (37, .ifCond .eq 5), (40, .lconst 0), (41, .lreturn), (42, .iload_n 2), (84, .aload_n 0), (85, .getfield 24), (88, .iload_n 1), (89, .iaload), (90, .i2l), (91, .lreturn), (92, .aload_n 0), (93, .getfield 27), (96, .iload_n 1), (97, .laload), (98, .lreturn), (99, .aload_n 0), (100, .getfield 30), (103, .iload_n 1), (104, .laload), (105, .lreturn), (106, .aload_n 0), (107, .getfield 33), (110, .iload_n 1), (111, .laload), (112, .lreturn), (113, .aload_n 0), (114, .getfield 36), (117, .iload_n 1), (118, .laload), (119, .lreturn), (120, .aload_n 0), (121, .getfield 39), (124, .iload_n 1), (125, .iaload), (126, .i2l), (127, .lreturn), (128, .aload_n 0), (129, .getfield 42), (132, .iload_n 1), (133, .iaload), (134, .i2l), (135, .lreturn), (136, .aload_n 0), (137, .getfield 45), (140, .iload_n 1), (141, .baload), (142, .ifCond .eq 7), (145, .lconst 1), (146, .goto 4), (149, .lconst 0), (150, .lreturn)]
def tbMo_order : xT := [(0, .aload_n 0), (1, .aload_n 0), (2, .iload_n 1), (3, .invokevirtual 104), (6, .ifCond .eq 7), (9, .iconst 0), (10, .goto 4), (13, .iconst 1), (14, .putfield 75), (17, .aload_n 0), (18, .getfield 75), (21, .ifCond .eq 5), (24, .iconst 0), (25, .ireturn), (26, .aload_n 0), (27, .iload_n 1), (28, .invokevirtual 146), (31, .iload_n 2), (32, .ifCond .lt 20), (35, .iload_n 2), (36, .aload_n 0), (37, .getfield 127), (40, .if_icmp .ge 12), (43, .aload_n 0), (44, .getfield 51), (47, .iload_n 2), (48, .iaload), (49, .goto 4), (52, .iconst (-1)), (53, .ireturn)]
def tbMo_findOrder : xT := [(0, .aload_n 0), (1, .iload_n 1), (2, .invokevirtual 136), (5, .aload_n 0), (6, .getfield 127), (9, .bipush 8), (11, .if_icmp .le 10), (14, .aload_n 0), (15, .invokevirtual 140), (18, .goto 7), (21, .aload_n 0), (22, .invokevirtual 143), (25, .return_)]
def tbMo_collect : xT := [(0, .aload_n 0), (1, .iconst 0), (2, .putfield 127), (5, .iconst 0), (6, .istore_n 2), (7, .iload_n 2), (8, .aload_n 0), (9, .getfield 21), (12, .iconst 0), (13, .iaload), (14, .if_icmp .ge 42), (17, .aload_n 0), (18, .getfield 24), (21, .iload_n 2), (22, .iaload), (23, .iload_n 1), (24, .if_icmp .eq 6), (27, .goto 23), (30, .aload_n 0), (31, .getfield 48), (34, .aload_n 0), (35, .getfield 127), (38, .iload_n 2), (39, .iastore), (40, .aload_n 0), (41, .dup), (42, .getfield 127), (45, .iconst 1), (46, .iadd), (47, .putfield 127), (50, .iinc 2 1), (53, .goto (-46)), (56, .return_)]
def tbMo_orderNearest : xT := [(0, .iconst (-1)), (1, .istore_n 1), (2, .iconst 0), (3, .istore_n 2), (4, .iload_n 2), (5, .aload_n 0), (6, .getfield 127), (9, .if_icmp .ge 104), (12, .iconst (-1)), (13, .istore_n 3), (14, .iconst 0), (15, .istore 4), (17, .iload 4), (19, .aload_n 0), (20, .getfield 127), (23, .if_icmp .ge 58), (26, .aload_n 0), (27, .getfield 48), (30, .iload 4), (32, .iaload), (33, .iconst (-1)), (34, .if_icmp .ne 6), (37, .goto 38), (40, .iload_n 3), (41, .iconst (-1)), (42, .if_icmp .eq 30), (45, .aload_n 0), (46, .iload_n 1), (47, .aload_n 0), (48, .getfield 48), (51, .iload 4), (53, .iaload), (54, .invokevirtual 132), (57, .aload_n 0), (58, .iload_n 1), (59, .aload_n 0), (60, .getfield 48), (63, .iload_n 3), (64, .iaload), (65, .invokevirtual 132), (68, .lcmp), (69, .ifCond .ge 6), (72, .iload 4), (74, .istore_n 3), (75, .iinc 4 1), (78, .goto (-61)), (81, .aload_n 0), (82, .getfield 51), (85, .iload_n 2), (86, .aload_n 0), (87, .getfield 48), (90, .iload_n 3), (91, .iaload), (92, .iastore), (93, .aload_n 0), (94, .getfield 48), (97, .iload_n 3), (98, .iaload), (99, .istore_n 1), (100, .aload_n 0), (101, .getfield 48), (104, .iload_n 3), (105, .iconst (-1)), (106, .iastore), (107, .iinc 2 1), (110, .goto (-106)), (113, .return_)]
def tbMo_way : xT := [(0, .iload_n 1), (1, .iconst (-1)), (2, .if_icmp .ne 23), (5, .lconst 0), (6, .lconst 0), (7, .aload_n 0), (8, .getfield 27), (11, .iload_n 2), (12, .laload), (13, .aload_n 0), (14, .getfield 30), (17, .iload_n 2), (18, .laload), (19, .invokestatic 123), (22, .goto 30), (25, .aload_n 0), (26, .getfield 33), (29, .iload_n 1), (30, .laload), (31, .aload_n 0), (32, .getfield 36), (35, .iload_n 1), (36, .laload), (37, .aload_n 0), (38, .getfield 27), (41, .iload_n 2), (42, .laload), (43, .aload_n 0), (44, .getfield 30), (47, .iload_n 2), (48, .laload), (49, .invokestatic 123), (52, .lreturn)]
def tbMo_wayOf : xT := [(0, .lload_n 0), (1, .lload 4), (3, .lsub), (4, .invokestatic 119), (7, .lstore 8), (9, .lload_n 2), (10, .lload 6), (12, .lsub), (13, .invokestatic 119), (16, .lstore 10), (18, .lload 8), (20, .lload 10), (22, .lcmp), (23, .ifCond .le 8), (26, .lload 8), (28, .goto 5), (31, .lload 10), (33, .lreturn)]
def tbMo_size : xT := [(0, .lload_n 0), (1, .lconst 0), (2, .lcmp), (3, .ifCond .ge 9), (6, .lconst 0), (7, .lload_n 0), (8, .lsub), (9, .goto 4), (12, .lload_n 0), (13, .lreturn)]
def tbMo_orderExactly : xT := [(0, .iconst 1), (1, .aload_n 0), (2, .getfield 127), (5, .ishl), (6, .iconst 1), (7, .isub), (8, .istore_n 1), (9, .iload_n 1), (10, .istore_n 2), (11, .iload_n 2), (12, .ifCond .le 155), (15, .iconst 0), (16, .istore_n 3), (17, .iload_n 3), (18, .aload_n 0), (19, .getfield 127), (22, .if_icmp .ge 139), (25, .iload_n 2), (26, .iload_n 3), (27, .ishr), (28, .iconst 1), (29, .iand), (30, .ifCond .ne 6), (33, .goto 122), (36, .iload_n 2), (37, .iload_n 1), (38, .if_icmp .ne 7), (41, .lconst 0), (42, .goto 6), (45, .ldc2_w 130), (48, .lstore 4), (50, .iconst 0), (51, .istore 6), (53, .iload 6), (55, .aload_n 0), (56, .getfield 127), (59, .if_icmp .ge 83), (62, .iload_n 2), (63, .iload 6), (65, .ishr), (66, .iconst 1), (67, .iand), (68, .iconst 1), (69, .if_icmp .ne 6), (72, .goto 64), (75, .aload_n 0), (76, .aload_n 0), (77, .getfield 48), (80, .iload_n 3), (81, .iaload), (82, .aload_n 0), (83, .getfield 48), (86, .iload 6), (88, .iaload), (89, .invokevirtual 132), (92, .aload_n 0), (93, .getfield 54), (96, .bipush 8), (98, .iload_n 2), (99, .iconst 1), (100, .iload 6), (102, .ishl), (103, .ior), (104, .imul), (105, .iload 6), (107, .iadd), (108, .laload), (109, .ladd), (110, .lstore 7), (112, .lload 4), (114, .lconst 0), (115, .lcmp), (116, .ifCond .lt 11), (119, .lload 7), (121, .lload 4), (123, .lcmp), (124, .ifCond .ge 8), (127, .lload 7), (129, .goto 5), (132, .lload 4), (134, .lstore 4), (136, .iinc 6 1), (139, .goto (-86)), (142, .aload_n 0), (143, .getfield 54), (146, .bipush 8), (148, .iload_n 2), (149, .imul), (150, .iload_n 3), (151, .iadd), (152, .lload 4), (154, .lastore), (155, .iinc 3 1), (158, .goto (-141)), (161, .iinc 2 (-1)), (164, .goto (-153)), (167, .iconst 0), (168, .istore_n 2), (169, .iconst (-1)), (170, .istore_n 3), (171, .iconst 0), (172, .istore 4), (174, .iload 4), (176, .aload_n 0), (177, .getfield 127), (180, .if_icmp .ge 141), (183, .iconst (-1)), (184, .istore 5), (186, .lconst 0), (187, .lstore 6), (189, .iconst 0), (190, .istore 8), (192, .iload 8), (194, .aload_n 0), (195, .getfield 127), (198, .if_icmp .ge 93), (201, .iload_n 2), (202, .iload 8), (204, .ishr), (205, .iconst 1), (206, .iand), (207, .iconst 1), (208, .if_icmp .ne 6), (211, .goto 74), (214, .aload_n 0), (215, .iload_n 3), (216, .iconst (-1)), (217, .if_icmp .ne 7), (220, .iconst (-1)), (221, .goto 9), (224, .aload_n 0), (225, .getfield 48), (228, .iload_n 3), (229, .iaload), (230, .aload_n 0), (231, .getfield 48), (234, .iload 8), (236, .iaload), (237, .invokevirtual 132), (240, .aload_n 0), (241, .getfield 54), (244, .bipush 8), (246, .iload_n 2), (247, .iconst 1), (248, .iload 8), (250, .ishl), (251, .ior), (252, .imul), (253, .iload 8), (255, .iadd), (256, .laload), (257, .ladd), (258, .lstore 9), (260, .iload 5), (262, .iconst (-1)), (263, .if_icmp .eq 14), (266, .lload 9), (268, .lload 6), (270, .lcmp), (271, .ifCond .lt 6), (274, .goto 11), (277, .iload 8), (279, .istore 5), (281, .lload 9), (283, .lstore 6), (285, .iinc 8 1), (288, .goto (-96)), (291, .aload_n 0), (292, .getfield 51), (295, .iload 4), (297, .aload_n 0), (298, .getfield 48), (301, .iload 5), (303, .iaload), (304, .iastore), (305, .iload_n 2), (306, .iconst 1), (307, .iload 5), (309, .ishl), (310, .ior), (311, .istore_n 2), (312, .iload 5), (314, .istore_n 3), (315, .iinc 4 1), (318, .goto (-144)), (321, .return_)]
def tbMo_travel : xT := [(0, .aload_n 0), (1, .aload_n 0), (2, .iload_n 1), (3, .invokevirtual 104), (6, .ifCond .eq 7), (9, .iconst 0), (10, .goto 4), (13, .iconst 1), (14, .putfield 75), (17, .aload_n 0), (18, .getfield 75), (21, .ifCond .eq 5), (24, .lconst 0), (25, .lreturn), (26, .aload_n 0), (27, .iload_n 1), (28, .invokevirtual 146), (31, .lconst 0), (32, .lstore_n 2), (33, .iconst 0), (34, .istore 4), (36, .iload 4), (38, .aload_n 0), (39, .getfield 127), (42, .if_icmp .ge 41), (45, .lload_n 2), (46, .aload_n 0), (47, .iload 4), (49, .ifCond .ne 7), (52, .iconst (-1)), (53, .goto 12), (56, .aload_n 0), (57, .getfield 51), (60, .iload 4), (62, .iconst 1), (63, .isub), (64, .iaload), (65, .aload_n 0), (66, .getfield 51), (69, .iload 4), (71, .iaload), (72, .invokevirtual 132), (75, .ladd), (76, .lstore_n 2), (77, .iinc 4 1), (80, .goto (-44)), (83, .lload_n 2), (84, .lreturn)]
def tbMo_proved : xT := [(0, .aload_n 0), (1, .aload_n 0), (2, .iload_n 1), (3, .invokevirtual 104), (6, .ifCond .eq 7), (9, .iconst 0), (10, .goto 4), (13, .iconst 1), (14, .putfield 75), (17, .aload_n 0), (18, .getfield 75), (21, .ifCond .eq 5), (24, .iconst 0), (25, .ireturn), (26, .aload_n 0), (27, .iload_n 1), (28, .invokevirtual 136), (31, .aload_n 0), (32, .getfield 127), (35, .bipush 8), (37, .if_icmp .gt 7), (40, .iconst 1), (41, .goto 4), (44, .iconst 0), (45, .ireturn)]
def tbMo_write : xT := [(0, .iload_n 1), (1, .ifCond .lt 40), (4, .iload_n 1), (5, .bipush 10), (7, .idiv), (8, .i2l), (9, .invokestatic 108), (12, .ifCond .eq 29), (15, .iload_n 1), (16, .bipush 10), (18, .irem), (19, .i2l), (20, .invokestatic 108), (23, .ifCond .eq 18), (26, .iload_n 1), (27, .bipush 10), (29, .idiv), (30, .iload_n 1), (31, .bipush 10), (33, .irem), (34, .if_icmp .gt 7), (37, .iconst 1), (38, .goto 4), (41, .iconst 0), (42, .istore_n 3), (43, .aload_n 0), (44, .iload_n 3), (45, .ifCond .eq 11), (48, .iload_n 2), (49, .ifCond .lt 7), (52, .iconst 0), (53, .goto 4), (56, .iconst 1), (57, .putfield 75), (60, .aload_n 0), (61, .getfield 75), (64, .ifCond .eq 5), (67, .iconst 0), (68, .ireturn), (69, .aload_n 0), (70, .iload_n 1), (71, .bipush 10), (73, .idiv), (74, .iload_n 1), (75, .bipush 10), (77, .irem), (78, .invokevirtual 171), (81, .iload_n 2), (82, .aload_n 0), (83, .getfield 149), (86, .if_icmp .ge 12), (89, .aload_n 0), (90, .getfield 57), (93, .iload_n 2), (94, .iaload), (95, .goto 4), (98, .iconst (-1)), (99, .ireturn)]
def tbMo_layText : xT := [(0, .aload_n 0), (1, .iconst 0), (2, .putfield 149), (5, .aload_n 0), (6, .bipush 77), (8, .invokevirtual 152), (11, .aload_n 0), (12, .bipush 52), (14, .invokevirtual 152), (17, .aload_n 0), (18, .bipush 56), (20, .invokevirtual 152), (23, .aload_n 0), (24, .bipush 10), (26, .invokevirtual 152), (29, .aload_n 0), (30, .bipush 76), (32, .invokevirtual 152), (35, .aload_n 0), (36, .iload_n 1), (37, .i2l), (38, .invokevirtual 157), (41, .aload_n 0), (42, .bipush 44), (44, .invokevirtual 152), (47, .aload_n 0), (48, .iload_n 2), (49, .i2l), (50, .invokevirtual 157), (53, .aload_n 0), (54, .bipush 10), (56, .invokevirtual 152), (59, .iconst 0), (60, .istore_n 3), (61, .iload_n 3), (62, .aload_n 0), (63, .getfield 7), (66, .iconst 0), (67, .iaload), (68, .if_icmp .ge 56), (71, .aload_n 0), (72, .iload_n 3), (73, .invokevirtual 165), (76, .aload_n 0), (77, .bipush 67), (79, .invokevirtual 152), (82, .aload_n 0), (83, .aload_n 0), (84, .getfield 13), (87, .iload_n 3), (88, .laload), (89, .invokevirtual 157), (92, .aload_n 0), (93, .aload_n 0), (94, .getfield 17), (97, .iload_n 3), (98, .baload), (99, .ifCond .eq 8), (102, .bipush 80), (104, .goto 5), (107, .bipush 78), (109, .invokevirtual 152), (112, .aload_n 0), (113, .bipush 10), (115, .invokevirtual 152), (118, .iinc 3 1), (121, .goto (-60)), (124, .aload_n 0), (125, .bipush 37), (127, .invokevirtual 152), (130, .aload_n 0), (131, .bipush 10), (133, .invokevirtual 152), (136, .iconst 0), (137, .istore_n 3), (138, .iload_n 3), (139, .aload_n 0), (140, .getfield 7), (143, .iconst 0), (144, .iaload), (145, .if_icmp .ge 94), (148, .aload_n 0), (149, .iload_n 3), (150, .invokevirtual 146), (153, .iconst 1), (154, .istore 4), (156, .iconst 0), (157, .istore 5), (159, .iload 5), (161, .aload_n 0), (162, .getfield 127), (165, .if_icmp .ge 68), (168, .aload_n 0), (169, .getfield 51), (172, .iload 5), (174, .iaload), (175, .istore 6), (177, .aload_n 0), (178, .getfield 39), (181, .iload 6), (183, .iaload), (184, .iload_n 1), (185, .if_icmp .ne 42), (188, .aload_n 0), (189, .getfield 42), (192, .iload 6), (194, .iaload), (195, .iload_n 2), (196, .if_icmp .eq 6), (199, .goto 28), (202, .iload 4), (204, .ifCond .eq 14), (207, .aload_n 0), (208, .iload_n 3), (209, .invokevirtual 165), (212, .aload_n 0), (213, .bipush 10), (215, .invokevirtual 152), (218, .iconst 0), (219, .istore 4), (221, .aload_n 0), (222, .iload 6), (224, .invokevirtual 168), (227, .iinc 5 1), (230, .goto (-71)), (233, .iinc 3 1), (236, .goto (-98)), (239, .aload_n 0), (240, .bipush 77), (242, .invokevirtual 152), (245, .aload_n 0), (246, .bipush 51), (248, .invokevirtual 152), (251, .aload_n 0), (252, .bipush 48), (254, .invokevirtual 152), (257, .aload_n 0), (258, .bipush 10), (260, .invokevirtual 152), (263, .return_)]
def tbMo_say : xT := [(0, .aload_n 0), (1, .getfield 57), (4, .aload_n 0), (5, .getfield 149), (8, .iload_n 1), (9, .iastore), (10, .aload_n 0), (11, .dup), (12, .getfield 149), (15, .iconst 1), (16, .iadd), (17, .putfield 149), (20, .return_)]
def tbMo_sayNumber : xT := [(0, .lload_n 1), (1, .lconst 0), (2, .lcmp), (3, .ifCond .ge 9), (6, .aload_n 0), (7, .bipush 45), (9, .invokevirtual 152), (12, .lload_n 1), (13, .invokestatic 119), (16, .lstore_n 3), (17, .lconst 1), (18, .lstore 5), (20, .lload_n 3), (21, .lload 5), (23, .ldiv), (24, .ldc2_w 155), (27, .lcmp), (28, .ifCond .lt 14), (31, .ldc2_w 155), (34, .lload 5), (36, .lmul), (37, .lstore 5), (39, .goto (-19)), (42, .lload 5), (44, .lconst 0), (45, .lcmp), (46, .ifCond .le 30), (49, .aload_n 0), (50, .lload_n 3), (51, .lload 5), (53, .ldiv), (54, .ldc2_w 155), (57, .lrem), (58, .l2i), (59, .bipush 48), (61, .iadd), (62, .invokevirtual 152), (65, .lload 5), (67, .ldc2_w 155), (70, .ldiv), (71, .lstore 5), (73, .goto (-31)), (76, .return_)]
def tbMo_sayTool : xT := [(0, .aload_n 0), (1, .bipush 84), (3, .invokevirtual 152), (6, .aload_n 0), (7, .iload_n 1), (8, .i2l), (9, .invokevirtual 157), (12, .return_)]
def tbMo_sayHit : xT := [(0, .aload_n 0), (1, .aload_n 0), (2, .getfield 27), (5, .iload_n 1), (6, .laload), (7, .aload_n 0), (8, .getfield 30), (11, .iload_n 1), (12, .laload), (13, .invokevirtual 161), (16, .aload_n 0), (17, .getfield 45), (20, .iload_n 1), (21, .baload), (22, .ifCond .eq 37), (25, .aload_n 0), (26, .bipush 71), (28, .invokevirtual 152), (31, .aload_n 0), (32, .bipush 56), (34, .invokevirtual 152), (37, .aload_n 0), (38, .bipush 53), (40, .invokevirtual 152), (43, .aload_n 0), (44, .aload_n 0), (45, .getfield 33), (48, .iload_n 1), (49, .laload), (50, .aload_n 0), (51, .getfield 36), (54, .iload_n 1), (55, .laload), (56, .invokevirtual 161), (59, .aload_n 0), (60, .bipush 10), (62, .invokevirtual 152), (65, .return_)]
def tbMo_sayPlace : xT := [(0, .aload_n 0), (1, .bipush 88), (3, .invokevirtual 152), (6, .aload_n 0), (7, .lload_n 1), (8, .invokevirtual 157), (11, .aload_n 0), (12, .bipush 89), (14, .invokevirtual 152), (17, .aload_n 0), (18, .lload_n 3), (19, .invokevirtual 157), (22, .return_)]
def tbMo_unit : xT := [(0, .aload_n 0), (1, .iconst 0), (2, .putfield 75), (5, .iload_n 1), (6, .bipush 10), (8, .if_icmp .eq 15), (11, .iload_n 1), (12, .bipush 32), (14, .if_icmp .lt 19), (17, .iload_n 1), (18, .bipush 126), (20, .if_icmp .gt 13), (23, .aload_n 0), (24, .getfield 79), (27, .sipush 2000), (30, .if_icmp .ne 5), (33, .iconst 0), (34, .ireturn), (35, .aload_n 0), (36, .getfield 60), (39, .aload_n 0), (40, .getfield 79), (43, .iload_n 1), (44, .iastore), (45, .aload_n 0), (46, .dup), (47, .getfield 79), (50, .iconst 1), (51, .iadd), (52, .putfield 79), (55, .iconst 1), (56, .ireturn)]
def tbMo_read : xT := [(0, .aload_n 0), (1, .iconst 0), (2, .putfield 75), (5, .aload_n 0), (6, .iconst 0), (7, .putfield 175), (10, .aload_n 0), (11, .iconst (-1)), (12, .putfield 178), (15, .aload_n 0), (16, .iconst 0), (17, .putfield 227), (20, .aload_n 0), (21, .iconst 0), (22, .putfield 212), (25, .aload_n 0), (26, .iconst (-1)), (27, .putfield 233), (30, .aload_n 0), (31, .getfield 7), (34, .iconst 1), (35, .iconst 0), (36, .iastore), (37, .aload_n 0), (38, .getfield 21), (41, .iconst 1), (42, .iconst 0), (43, .iastore), (44, .aload_n 0), (45, .getfield 178), (48, .iconst (-1)), (49, .if_icmp .ne 21), (52, .aload_n 0), (53, .getfield 175), (56, .aload_n 0), (57, .getfield 79), (60, .if_icmp .ge 10), (63, .aload_n 0), (64, .invokevirtual 245), (67, .goto (-23)), (70, .aload_n 0), (71, .getfield 178), (74, .iconst (-1)), (75, .if_icmp .ne 19), (78, .aload_n 0), (79, .getfield 227), (82, .iconst 3), (83, .if_icmp .ge 11), (86, .aload_n 0), (87, .aload_n 0), (88, .getfield 79), (91, .putfield 178), (94, .aload_n 0), (95, .getfield 178), (98, .iconst (-1)), (99, .if_icmp .eq 10), (102, .iconst (-1)), (103, .aload_n 0), (104, .getfield 178), (107, .isub), (108, .ireturn), (109, .aload_n 0), (110, .getfield 7), (113, .iconst 0), (114, .aload_n 0), (115, .getfield 7), (118, .iconst 1), (119, .iaload), (120, .iastore), (121, .iconst 0), (122, .istore_n 1), (123, .iload_n 1), (124, .bipush 10), (126, .if_icmp .ge 39), (129, .aload_n 0), (130, .getfield 13), (133, .iload_n 1), (134, .aload_n 0), (135, .getfield 13), (138, .bipush 10), (140, .iload_n 1), (141, .iadd), (142, .laload), (143, .lastore), (144, .aload_n 0), (145, .getfield 17), (148, .iload_n 1), (149, .aload_n 0), (150, .getfield 17), (153, .bipush 10), (155, .iload_n 1), (156, .iadd), (157, .baload), (158, .bastore), (159, .iinc 1 1), (162, .goto (-39)), (165, .aload_n 0), (166, .getfield 21), (169, .iconst 0), (170, .iconst 0), (171, .iastore), (172, .bipush 60), (174, .istore_n 1), (175, .iload_n 1), (176, .bipush 60), (178, .aload_n 0), (179, .getfield 21), (182, .iconst 1), (183, .iaload), (184, .iadd), (185, .if_icmp .ge 63), (188, .aload_n 0), (189, .iconst 0), (190, .aload_n 0), (191, .getfield 24), (194, .iload_n 1), (195, .iaload), (196, .aload_n 0), (197, .getfield 27), (200, .iload_n 1), (201, .laload), (202, .aload_n 0), (203, .getfield 30), (206, .iload_n 1), (207, .laload), (208, .aload_n 0), (209, .getfield 33), (212, .iload_n 1), (213, .laload), (214, .aload_n 0), (215, .getfield 36), (218, .iload_n 1), (219, .laload), (220, .aload_n 0), (221, .getfield 39), (224, .iload_n 1), (225, .iaload), (226, .aload_n 0), (227, .getfield 42), (230, .iload_n 1), (231, .iaload), (232, .aload_n 0), (233, .getfield 45), (236, .iload_n 1), (237, .baload), (238, .invokevirtual 115), (241, .pop), (242, .iinc 1 1), (245, .goto (-70)), (248, .aload_n 0), (249, .iconst 0), (250, .putfield 79), (253, .aload_n 0), (254, .getfield 21), (257, .iconst 0), (258, .iaload), (259, .ireturn)]
def tbMo_readLine : xT := [(0, .aload_n 0), (1, .aload_n 0), (2, .getfield 175), (5, .putfield 202), (8, .aload_n 0), (9, .iconst 1), (10, .putfield 198), (13, .aload_n 0), (14, .getfield 227), (17, .ifCond .ne 36), (20, .aload_n 0), (21, .bipush 77), (23, .invokevirtual 195), (26, .aload_n 0), (27, .bipush 52), (29, .invokevirtual 195), (32, .aload_n 0), (33, .bipush 56), (35, .invokevirtual 195), (38, .aload_n 0), (39, .invokevirtual 209), (42, .ifCond .eq 49), (45, .aload_n 0), (46, .iconst 1), (47, .putfield 227), (50, .goto 41), (53, .aload_n 0), (54, .getfield 227), (57, .iconst 1), (58, .if_icmp .ne 10), (61, .aload_n 0), (62, .invokevirtual 239), (65, .goto 26), (68, .aload_n 0), (69, .getfield 227), (72, .iconst 2), (73, .if_icmp .ne 10), (76, .aload_n 0), (77, .invokevirtual 242), (80, .goto 11), (83, .aload_n 0), (84, .aload_n 0), (85, .getfield 175), (88, .putfield 178), (91, .return_)]
def tbMo_expect : xT := [(0, .aload_n 0), (1, .getfield 178), (4, .iconst (-1)), (5, .if_icmp .eq 4), (8, .return_), (9, .aload_n 0), (10, .invokevirtual 181), (13, .iload_n 1), (14, .if_icmp .ne 16), (17, .aload_n 0), (18, .dup), (19, .getfield 175), (22, .iconst 1), (23, .iadd), (24, .putfield 175), (27, .goto 11), (30, .aload_n 0), (31, .aload_n 0), (32, .getfield 175), (35, .putfield 178), (38, .return_)]
def tbMo_now : xT := [(0, .aload_n 0), (1, .getfield 175), (4, .aload_n 0), (5, .getfield 79), (8, .if_icmp .ge 15), (11, .aload_n 0), (12, .getfield 60), (15, .aload_n 0), (16, .getfield 175), (19, .iaload), (20, .goto 4), (23, .iconst (-1)), (24, .ireturn)]
def tbMo_endLine : xT := [(0, .aload_n 0), (1, .bipush 10), (3, .invokevirtual 195), (6, .aload_n 0), (7, .getfield 178), (10, .iconst (-1)), (11, .if_icmp .ne 18), (14, .aload_n 0), (15, .getfield 198), (18, .ifCond .ne 11), (21, .aload_n 0), (22, .aload_n 0), (23, .getfield 202), (26, .putfield 178), (29, .aload_n 0), (30, .getfield 178), (33, .iconst (-1)), (34, .if_icmp .ne 7), (37, .iconst 1), (38, .goto 4), (41, .iconst 0), (42, .ireturn)]
def tbMo_readFirst : xT := [(0, .aload_n 0), (1, .invokevirtual 181), (4, .istore_n 1), (5, .iload_n 1), (6, .bipush 76), (8, .if_icmp .ne 19), (11, .aload_n 0), (12, .getfield 7), (15, .iconst 1), (16, .iaload), (17, .ifCond .ne 10), (20, .aload_n 0), (21, .invokevirtual 221), (24, .goto 69), (27, .iload_n 1), (28, .bipush 84), (30, .if_icmp .ne 17), (33, .aload_n 0), (34, .getfield 212), (37, .ifCond .eq 10), (40, .aload_n 0), (41, .invokevirtual 224), (44, .goto 49), (47, .iload_n 1), (48, .bipush 37), (50, .if_icmp .ne 35), (53, .aload_n 0), (54, .getfield 212), (57, .ifCond .eq 28), (60, .aload_n 0), (61, .dup), (62, .getfield 175), (65, .iconst 1), (66, .iadd), (67, .putfield 175), (70, .aload_n 0), (71, .invokevirtual 209), (74, .ifCond .eq 19), (77, .aload_n 0), (78, .iconst 2), (79, .putfield 227), (82, .goto 11), (85, .aload_n 0), (86, .aload_n 0), (87, .getfield 175), (90, .putfield 178), (93, .return_)]
def tbMo_readLayers : xT := [(0, .aload_n 0), (1, .dup), (2, .getfield 175), (5, .iconst 1), (6, .iadd), (7, .putfield 175), (10, .aload_n 0), (11, .invokevirtual 185), (14, .lstore_n 1), (15, .aload_n 0), (16, .bipush 44), (18, .invokevirtual 195), (21, .aload_n 0), (22, .invokevirtual 185), (25, .lstore_n 3), (26, .aload_n 0), (27, .lload_n 1), (28, .invokestatic 108), (31, .ifCond .eq 20), (34, .lload_n 3), (35, .invokestatic 108), (38, .ifCond .eq 13), (41, .lload_n 1), (42, .lload_n 3), (43, .lcmp), (44, .ifCond .gt 7), (47, .iconst 1), (48, .goto 4), (51, .iconst 0), (52, .invokevirtual 205), (55, .aload_n 0), (56, .invokevirtual 209), (59, .ifCond .ne 4), (62, .return_), (63, .aload_n 0), (64, .iconst 1), (65, .putfield 212), (68, .aload_n 0), (69, .lload_n 1), (70, .l2i), (71, .putfield 215), (74, .aload_n 0), (75, .lload_n 3), (76, .l2i), (77, .putfield 218), (80, .return_)]
def tbMo_whole : xT := [(0, .lconst 0), (1, .lstore_n 1), (2, .iconst 0), (3, .istore_n 3), (4, .aload_n 0), (5, .getfield 178), (8, .iconst (-1)), (9, .if_icmp .ne 48), (12, .iload_n 3), (13, .bipush 7), (15, .if_icmp .ge 42), (18, .aload_n 0), (19, .invokevirtual 189), (22, .ifCond .eq 35), (25, .ldc2_w 155), (28, .lload_n 1), (29, .lmul), (30, .aload_n 0), (31, .invokevirtual 181), (34, .i2l), (35, .ladd), (36, .ldc2_w 193), (39, .lsub), (40, .lstore_n 1), (41, .iinc 3 1), (44, .aload_n 0), (45, .dup), (46, .getfield 175), (49, .iconst 1), (50, .iadd), (51, .putfield 175), (54, .goto (-50)), (57, .aload_n 0), (58, .getfield 178), (61, .iconst (-1)), (62, .if_icmp .ne 22), (65, .iload_n 3), (66, .ifCond .eq 10), (69, .aload_n 0), (70, .invokevirtual 189), (73, .ifCond .eq 11), (76, .aload_n 0), (77, .aload_n 0), (78, .getfield 175), (81, .putfield 178), (84, .lload_n 1), (85, .lreturn)]
def tbMo_isDigit : xT := [(0, .aload_n 0), (1, .invokevirtual 181), (4, .bipush 48), (6, .if_icmp .lt 16), (9, .aload_n 0), (10, .invokevirtual 181), (13, .bipush 57), (15, .if_icmp .gt 7), (18, .iconst 1), (19, .goto 4), (22, .iconst 0), (23, .ireturn)]
def tbMo_must : xT := [(0, .aload_n 0), (1, .aload_n 0), (2, .getfield 198), (5, .ifCond .eq 11), (8, .iload_n 1), (9, .ifCond .eq 7), (12, .iconst 1), (13, .goto 4), (16, .iconst 0), (17, .putfield 198), (20, .return_)]
def tbMo_readTool : xT := [(0, .aload_n 0), (1, .dup), (2, .getfield 175), (5, .iconst 1), (6, .iadd), (7, .putfield 175), (10, .aload_n 0), (11, .invokevirtual 185), (14, .lstore_n 1), (15, .aload_n 0), (16, .bipush 67), (18, .invokevirtual 195), (21, .aload_n 0), (22, .invokevirtual 185), (25, .lstore_n 3), (26, .aload_n 0), (27, .invokevirtual 181), (30, .bipush 80), (32, .if_icmp .ne 7), (35, .iconst 1), (36, .goto 4), (39, .iconst 0), (40, .istore 5), (42, .aload_n 0), (43, .getfield 178), (46, .iconst (-1)), (47, .if_icmp .ne 30), (50, .iload 5), (52, .ifCond .ne 12), (55, .aload_n 0), (56, .invokevirtual 181), (59, .bipush 78), (61, .if_icmp .ne 16), (64, .aload_n 0), (65, .dup), (66, .getfield 175), (69, .iconst 1), (70, .iadd), (71, .putfield 175), (74, .goto 19), (77, .aload_n 0), (78, .getfield 178), (81, .iconst (-1)), (82, .if_icmp .ne 11), (85, .aload_n 0), (86, .aload_n 0), (87, .getfield 175), (90, .putfield 178), (93, .aload_n 0), (94, .lload_n 1), (95, .aload_n 0), (96, .getfield 7), (99, .iconst 1), (100, .iaload), (101, .i2l), (102, .lcmp), (103, .ifCond .ne 22), (106, .lload_n 1), (107, .ldc2_w 155), (110, .lcmp), (111, .ifCond .ge 14), (114, .lload_n 3), (115, .invokestatic 96), (118, .ifCond .eq 7), (121, .iconst 1), (122, .goto 4), (125, .iconst 0), (126, .invokevirtual 205), (129, .aload_n 0), (130, .invokevirtual 209), (133, .ifCond .eq 12), (136, .aload_n 0), (137, .iconst 1), (138, .lload_n 3), (139, .iload 5), (141, .invokevirtual 100), (144, .pop), (145, .return_)]
def tbMo_readSecond : xT := [(0, .aload_n 0), (1, .invokevirtual 181), (4, .istore_n 1), (5, .iload_n 1), (6, .bipush 84), (8, .if_icmp .ne 55), (11, .aload_n 0), (12, .dup), (13, .getfield 175), (16, .iconst 1), (17, .iadd), (18, .putfield 175), (21, .aload_n 0), (22, .invokevirtual 185), (25, .lstore_n 2), (26, .aload_n 0), (27, .lload_n 2), (28, .aload_n 0), (29, .getfield 7), (32, .iconst 1), (33, .iaload), (34, .i2l), (35, .lcmp), (36, .ifCond .ge 7), (39, .iconst 1), (40, .goto 4), (43, .iconst 0), (44, .invokevirtual 205), (47, .aload_n 0), (48, .invokevirtual 209), (51, .ifCond .eq 9), (54, .aload_n 0), (55, .lload_n 2), (56, .l2i), (57, .putfield 233), (60, .goto 54), (63, .iload_n 1), (64, .bipush 88), (66, .if_icmp .ne 18), (69, .aload_n 0), (70, .getfield 233), (73, .iconst (-1)), (74, .if_icmp .eq 10), (77, .aload_n 0), (78, .invokevirtual 236), (81, .goto 33), (84, .aload_n 0), (85, .bipush 77), (87, .invokevirtual 195), (90, .aload_n 0), (91, .bipush 51), (93, .invokevirtual 195), (96, .aload_n 0), (97, .bipush 48), (99, .invokevirtual 195), (102, .aload_n 0), (103, .invokevirtual 209), (106, .ifCond .eq 8), (109, .aload_n 0), (110, .iconst 3), (111, .putfield 227), (114, .return_)]
def tbMo_readHit : xT := [(0, .aload_n 0), (1, .dup), (2, .getfield 175), (5, .iconst 1), (6, .iadd), (7, .putfield 175), (10, .aload_n 0), (11, .invokevirtual 230), (14, .lstore_n 1), (15, .aload_n 0), (16, .bipush 89), (18, .invokevirtual 195), (21, .aload_n 0), (22, .invokevirtual 230), (25, .lstore_n 3), (26, .aload_n 0), (27, .getfield 178), (30, .iconst (-1)), (31, .if_icmp .ne 16), (34, .aload_n 0), (35, .invokevirtual 181), (38, .bipush 71), (40, .if_icmp .ne 7), (43, .iconst 1), (44, .goto 4), (47, .iconst 0), (48, .istore 5), (50, .lload_n 1), (51, .lstore 6), (53, .lload_n 3), (54, .lstore 8), (56, .iload 5), (58, .ifCond .eq 72), (61, .aload_n 0), (62, .dup), (63, .getfield 175), (66, .iconst 1), (67, .iadd), (68, .putfield 175), (71, .aload_n 0), (72, .bipush 56), (74, .invokevirtual 195), (77, .aload_n 0), (78, .bipush 53), (80, .invokevirtual 195), (83, .aload_n 0), (84, .bipush 88), (86, .invokevirtual 195), (89, .aload_n 0), (90, .invokevirtual 230), (93, .lstore 6), (95, .aload_n 0), (96, .bipush 89), (98, .invokevirtual 195), (101, .aload_n 0), (102, .invokevirtual 230), (105, .lstore 8), (107, .aload_n 0), (108, .lload_n 1), (109, .lload 6), (111, .lcmp), (112, .ifCond .ne 10), (115, .lload_n 3), (116, .lload 8), (118, .lcmp), (119, .ifCond .eq 7), (122, .iconst 1), (123, .goto 4), (126, .iconst 0), (127, .invokevirtual 205), (130, .aload_n 0), (131, .lload_n 1), (132, .lload_n 3), (133, .invokestatic 111), (136, .ifCond .eq 28), (139, .lload 6), (141, .lload 8), (143, .invokestatic 111), (146, .ifCond .eq 18), (149, .aload_n 0), (150, .getfield 21), (153, .iconst 1), (154, .iaload), (155, .bipush 60), (157, .if_icmp .ge 7), (160, .iconst 1), (161, .goto 4), (164, .iconst 0), (165, .invokevirtual 205), (168, .aload_n 0), (169, .invokevirtual 209), (172, .ifCond .eq 48), (175, .aload_n 0), (176, .iconst 1), (177, .aload_n 0), (178, .getfield 233), (181, .lload_n 1), (182, .lload_n 3), (183, .lload 6), (185, .lload 8), (187, .iload 5), (189, .ifCond .eq 7), (192, .iconst 0), (193, .goto 7), (196, .aload_n 0), (197, .getfield 215), (200, .iload 5), (202, .ifCond .eq 8), (205, .bipush 7), (207, .goto 7), (210, .aload_n 0), (211, .getfield 218), (214, .iload 5), (216, .invokevirtual 115), (219, .pop), (220, .return_)]
def tbMo_number : xT := [(0, .aload_n 0), (1, .invokevirtual 181), (4, .bipush 45), (6, .if_icmp .ne 7), (9, .iconst 1), (10, .goto 4), (13, .iconst 0), (14, .istore_n 1), (15, .iload_n 1), (16, .ifCond .eq 21), (19, .aload_n 0), (20, .getfield 178), (23, .iconst (-1)), (24, .if_icmp .ne 13), (27, .aload_n 0), (28, .dup), (29, .getfield 175), (32, .iconst 1), (33, .iadd), (34, .putfield 175), (37, .aload_n 0), (38, .invokevirtual 185), (41, .lstore_n 2), (42, .iload_n 1), (43, .ifCond .eq 9), (46, .lconst 0), (47, .lload_n 2), (48, .lsub), (49, .goto 4), (52, .lload_n 2), (53, .lreturn)]
def tbMo_file : xT := [(0, .aload_n 0), (1, .iload_n 1), (2, .i2l), (3, .invokestatic 108), (6, .ifCond .eq 7), (9, .iconst 0), (10, .goto 4), (13, .iconst 1), (14, .putfield 75), (17, .aload_n 0), (18, .getfield 75), (21, .ifCond .eq 5), (24, .iconst 0), (25, .ireturn), (26, .aload_n 0), (27, .iload_n 1), (28, .invokevirtual 248), (31, .iconst (-1)), (32, .if_icmp .eq 5), (35, .iconst (-1)), (36, .ireturn), (37, .aload_n 0), (38, .getfield 63), (41, .aload_n 0), (42, .getfield 82), (45, .iload_n 1), (46, .iastore), (47, .aload_n 0), (48, .getfield 66), (51, .aload_n 0), (52, .getfield 82), (55, .iconst 0), (56, .iastore), (57, .aload_n 0), (58, .dup), (59, .getfield 82), (62, .iconst 1), (63, .iadd), (64, .putfield 82), (67, .aload_n 0), (68, .getfield 82), (71, .iconst 1), (72, .isub), (73, .ireturn)]
def tbMo_fileWith : xT := [(0, .iconst 0), (1, .istore_n 2), (2, .iload_n 2), (3, .aload_n 0), (4, .getfield 82), (7, .if_icmp .ge 21), (10, .aload_n 0), (11, .getfield 63), (14, .iload_n 2), (15, .iaload), (16, .iload_n 1), (17, .if_icmp .ne 5), (20, .iload_n 2), (21, .ireturn), (22, .iinc 2 1), (25, .goto (-23)), (28, .iconst (-1)), (29, .ireturn)]
def tbMo_byteOf : xT := [(0, .aload_n 0), (1, .aload_n 0), (2, .iload_n 1), (3, .invokevirtual 252), (6, .ifCond .ne 7), (9, .iconst 1), (10, .goto 15), (13, .iload_n 2), (14, .invokestatic 255), (17, .ifCond .eq 7), (20, .iconst 0), (21, .goto 4), (24, .iconst 2), (25, .putfield 75), (28, .aload_n 0), (29, .getfield 75), (32, .ifCond .ne 15), (35, .aload_n 0), (36, .getfield 66), (39, .iload_n 1), (40, .iaload), (41, .sipush 300), (44, .if_icmp .ne 5), (47, .iconst 0), (48, .ireturn), (49, .aload_n 0), (50, .getfield 69), (53, .sipush 300), (56, .iload_n 1), (57, .imul), (58, .aload_n 0), (59, .getfield 66), (62, .iload_n 1), (63, .iaload), (64, .iadd), (65, .iload_n 2), (66, .iastore), (67, .aload_n 0), (68, .getfield 66), (71, .iload_n 1), (72, .dup2), (73, .iaload), (74, .iconst 1), (75, .iadd), (76, .iastore), (77, .iconst 1), (78, .ireturn)]
def tbMo_isFile : xT := [(0, .iload_n 1), (1, .ifCond .lt 15), (4, .iload_n 1), (5, .aload_n 0), (6, .getfield 82), (9, .if_icmp .ge 7), (12, .iconst 1), (13, .goto 4), (16, .iconst 0), (17, .ireturn)]
def tbMo_isByte : xT := [(0, .iload_n 0), (1, .ifCond .lt 14), (4, .iload_n 0), (5, .sipush 256), (8, .if_icmp .ge 7), (11, .iconst 1), (12, .goto 4), (15, .iconst 0), (16, .ireturn)]
def tbMo_sum : xT := [(0, .aload_n 0), (1, .aload_n 0), (2, .iload_n 1), (3, .invokevirtual 252), (6, .ifCond .eq 7), (9, .iconst 0), (10, .goto 4), (13, .iconst 1), (14, .putfield 75), (17, .aload_n 0), (18, .getfield 75), (21, .ifCond .ne 12), (24, .aload_n 0), (25, .iload_n 1), (26, .invokevirtual 259), (29, .i2l), (30, .goto 4), (33, .lconst 0), (34, .lreturn)]
def tbMo_sumOf : xT := [(0, .iconst 0), (1, .istore_n 2), (2, .iconst 0), (3, .istore_n 3), (4, .iload_n 3), (5, .aload_n 0), (6, .getfield 66), (9, .iload_n 1), (10, .iaload), (11, .if_icmp .ge 32), (14, .iload_n 2), (15, .iload_n 3), (16, .iconst 1), (17, .iadd), (18, .aload_n 0), (19, .getfield 69), (22, .sipush 300), (25, .iload_n 1), (26, .imul), (27, .iload_n 3), (28, .iadd), (29, .iaload), (30, .imul), (31, .iadd), (32, .ldc_w 258), (35, .irem), (36, .istore_n 2), (37, .iinc 3 1), (40, .goto (-36)), (43, .iload_n 2), (44, .ireturn)]
def tbMo_archive : xT := [(0, .aload_n 0), (1, .iload_n 1), (2, .ifCond .ge 7), (5, .iconst 1), (6, .goto 4), (9, .iconst 0), (10, .putfield 75), (13, .aload_n 0), (14, .getfield 75), (17, .ifCond .eq 5), (20, .iconst 0), (21, .ireturn), (22, .aload_n 0), (23, .iload_n 1), (24, .putfield 265), (27, .aload_n 0), (28, .iconst 0), (29, .putfield 262), (32, .aload_n 0), (33, .iconst (-1)), (34, .putfield 268), (37, .aload_n 0), (38, .aload_n 0), (39, .getfield 82), (42, .invokevirtual 271), (45, .iconst 0), (46, .istore_n 2), (47, .iload_n 2), (48, .aload_n 0), (49, .getfield 82), (52, .if_icmp .ge 107), (55, .aload_n 0), (56, .aload_n 0), (57, .getfield 63), (60, .iload_n 2), (61, .iaload), (62, .invokevirtual 271), (65, .aload_n 0), (66, .aload_n 0), (67, .getfield 66), (70, .iload_n 2), (71, .iaload), (72, .sipush 256), (75, .irem), (76, .invokevirtual 271), (79, .aload_n 0), (80, .aload_n 0), (81, .getfield 66), (84, .iload_n 2), (85, .iaload), (86, .sipush 256), (89, .idiv), (90, .invokevirtual 271), (93, .iconst 0), (94, .istore_n 3), (95, .iload_n 3), (96, .aload_n 0), (97, .getfield 66), (100, .iload_n 2), (101, .iaload), (102, .if_icmp .ge 25), (105, .aload_n 0), (106, .aload_n 0), (107, .getfield 69), (110, .sipush 300), (113, .iload_n 2), (114, .imul), (115, .iload_n 3), (116, .iadd), (117, .iaload), (118, .invokevirtual 271), (121, .iinc 3 1), (124, .goto (-29)), (127, .aload_n 0), (128, .aload_n 0), (129, .iload_n 2), (130, .invokevirtual 259), (133, .sipush 256), (136, .irem), (137, .invokevirtual 271), (140, .aload_n 0), (141, .aload_n 0), (142, .iload_n 2), (143, .invokevirtual 259), (146, .sipush 256), (149, .idiv), (150, .invokevirtual 271), (153, .iinc 2 1), (156, .goto (-109)), (159, .aload_n 0), (160, .getfield 268), (163, .ireturn)]
def tbMo_put : xT := [(0, .aload_n 0), (1, .getfield 262), (4, .aload_n 0), (5, .getfield 265), (8, .if_icmp .ne 8), (11, .aload_n 0), (12, .iload_n 1), (13, .putfield 268), (16, .aload_n 0), (17, .dup), (18, .getfield 262), (21, .iconst 1), (22, .iadd), (23, .putfield 262), (26, .return_)]
def tbMo_feed : xT := [(0, .aload_n 0), (1, .iconst 0), (2, .putfield 75), (5, .iload_n 1), (6, .invokestatic 255), (9, .ifCond .eq 13), (12, .aload_n 0), (13, .getfield 85), (16, .sipush 2600), (19, .if_icmp .ne 5), (22, .iconst 0), (23, .ireturn), (24, .aload_n 0), (25, .getfield 72), (28, .aload_n 0), (29, .getfield 85), (32, .iload_n 1), (33, .iastore), (34, .aload_n 0), (35, .dup), (36, .getfield 85), (39, .iconst 1), (40, .iadd), (41, .putfield 85), (44, .iconst 1), (45, .ireturn)]
def tbMo_open : xT := [(0, .aload_n 0), (1, .iconst 0), (2, .putfield 75), (5, .aload_n 0), (6, .getfield 85), (9, .ifCond .le 19), (12, .aload_n 0), (13, .iconst 0), (14, .invokevirtual 274), (17, .aload_n 0), (18, .getfield 85), (21, .if_icmp .ne 7), (24, .iconst 1), (25, .goto 4), (28, .iconst 0), (29, .istore_n 1), (30, .iload_n 1), (31, .ifCond .eq 19), (34, .aload_n 0), (35, .aload_n 0), (36, .getfield 72), (39, .iconst 0), (40, .iaload), (41, .putfield 82), (44, .aload_n 0), (45, .iconst 1), (46, .invokevirtual 274), (49, .pop), (50, .aload_n 0), (51, .iconst 0), (52, .putfield 85), (55, .iload_n 1), (56, .ifCond .eq 10), (59, .aload_n 0), (60, .getfield 82), (63, .goto 4), (66, .iconst (-1)), (67, .ireturn)]
def tbMo_walk : xT := [(0, .aload_n 0), (1, .getfield 85), (4, .ifCond .eq 14), (7, .aload_n 0), (8, .getfield 72), (11, .iconst 0), (12, .iaload), (13, .bipush 8), (15, .if_icmp .le 5), (18, .iconst (-1)), (19, .ireturn), (20, .iconst 1), (21, .istore_n 2), (22, .iconst 0), (23, .istore_n 3), (24, .iconst 0), (25, .istore 4), (27, .iload 4), (29, .aload_n 0), (30, .getfield 72), (33, .iconst 0), (34, .iaload), (35, .if_icmp .ge 243), (38, .iload_n 2), (39, .iconst 3), (40, .iadd), (41, .aload_n 0), (42, .getfield 85), (45, .if_icmp .le 5), (48, .iconst (-1)), (49, .ireturn), (50, .aload_n 0), (51, .getfield 72), (54, .iload_n 2), (55, .iaload), (56, .istore 5), (58, .aload_n 0), (59, .getfield 72), (62, .iload_n 2), (63, .iconst 1), (64, .iadd), (65, .iaload), (66, .sipush 256), (69, .aload_n 0), (70, .getfield 72), (73, .iload_n 2), (74, .iconst 2), (75, .iadd), (76, .iaload), (77, .imul), (78, .iadd), (79, .istore 6), (81, .iinc 2 3), (84, .iload 5), (86, .bipush 7), (88, .if_icmp .gt 34), (91, .iload_n 3), (92, .iload 5), (94, .ishr), (95, .iconst 1), (96, .iand), (97, .iconst 1), (98, .if_icmp .eq 24), (101, .iload 6), (103, .sipush 300), (106, .if_icmp .gt 16), (109, .iload_n 2), (110, .iload 6), (112, .iadd), (113, .iconst 2), (114, .iadd), (115, .aload_n 0), (116, .getfield 85), (119, .if_icmp .le 5), (122, .iconst (-1)), (123, .ireturn), (124, .iload_n 3), (125, .iconst 1), (126, .iload 5), (128, .ishl), (129, .ior), (130, .istore_n 3), (131, .iconst 0), (132, .istore 7), (134, .iconst 0), (135, .istore 8), (137, .iload 8), (139, .iload 6), (141, .if_icmp .ge 32), (144, .iload 7), (146, .iload 8), (148, .iconst 1), (149, .iadd), (150, .aload_n 0), (151, .getfield 72), (154, .iload_n 2), (155, .iload 8), (157, .iadd), (158, .iaload), (159, .imul), (160, .iadd), (161, .ldc_w 258), (164, .irem), (165, .istore 7), (167, .iinc 8 1), (170, .goto (-33)), (173, .iconst 0), (174, .istore 8), (176, .iload 8), (178, .iload 6), (180, .if_icmp .ge 36), (183, .iload_n 1), (184, .ifCond .eq 32), (187, .aload_n 0), (188, .getfield 69), (191, .sipush 300), (194, .iload 4), (196, .imul), (197, .iload 8), (199, .iadd), (200, .aload_n 0), (201, .getfield 72), (204, .iload_n 2), (205, .iload 8), (207, .iadd), (208, .iaload), (209, .iastore), (210, .iinc 8 1), (213, .goto (-37)), (216, .iload_n 1), (217, .ifCond .eq 21), (220, .aload_n 0), (221, .getfield 63), (224, .iload 4), (226, .iload 5), (228, .iastore), (229, .aload_n 0), (230, .getfield 66), (233, .iload 4), (235, .iload 6), (237, .iastore), (238, .iload_n 2), (239, .iload 6), (241, .iadd), (242, .istore_n 2), (243, .iload 7), (245, .aload_n 0), (246, .getfield 72), (249, .iload_n 2), (250, .iaload), (251, .sipush 256), (254, .aload_n 0), (255, .getfield 72), (258, .iload_n 2), (259, .iconst 1), (260, .iadd), (261, .iaload), (262, .imul), (263, .iadd), (264, .if_icmp .eq 5), (267, .iconst (-1)), (268, .ireturn), (269, .iinc 2 2), (272, .iinc 4 1), (275, .goto (-248)), (278, .iload_n 2), (279, .ireturn)]
def tbMo_agrees : xT := [(0, .aload_n 0), (1, .iconst 0), (2, .putfield 75), (5, .iconst 1), (6, .istore_n 1), (7, .iconst 0), (8, .istore_n 2), (9, .iload_n 2), (10, .aload_n 0), (11, .getfield 82), (14, .if_icmp .ge 27), (17, .iload_n 1), (18, .ifCond .eq 15), (21, .aload_n 0), (22, .iload_n 2), (23, .invokevirtual 278), (26, .ifCond .eq 7), (29, .iconst 1), (30, .goto 4), (33, .iconst 0), (34, .istore_n 1), (35, .iinc 2 1), (38, .goto (-29)), (41, .iload_n 1), (42, .ireturn)]
def tbMo_isText : xT := [(0, .aload_n 0), (1, .iconst 0), (2, .aload_n 0), (3, .getfield 63), (6, .iload_n 1), (7, .iaload), (8, .invokevirtual 171), (11, .aload_n 0), (12, .getfield 66), (15, .iload_n 1), (16, .iaload), (17, .aload_n 0), (18, .getfield 149), (21, .if_icmp .ne 7), (24, .iconst 1), (25, .goto 4), (28, .iconst 0), (29, .istore_n 2), (30, .iconst 0), (31, .istore_n 3), (32, .iload_n 3), (33, .aload_n 0), (34, .getfield 149), (37, .if_icmp .ge 40), (40, .iload_n 2), (41, .ifCond .eq 36), (44, .aload_n 0), (45, .getfield 57), (48, .iload_n 3), (49, .iaload), (50, .aload_n 0), (51, .getfield 69), (54, .sipush 300), (57, .iload_n 1), (58, .imul), (59, .iload_n 3), (60, .iadd), (61, .iaload), (62, .if_icmp .ne 7), (65, .iconst 1), (66, .goto 4), (69, .iconst 0), (70, .istore_n 2), (71, .iinc 3 1), (74, .goto (-42)), (77, .iload_n 2), (78, .ireturn)]
def tbMo_told : xT := [(0, .aload_n 0), (1, .iconst 0), (2, .putfield 75), (5, .iload_n 1), (6, .istore_n 2), (7, .iconst 0), (8, .istore_n 3), (9, .iload_n 3), (10, .bipush 8), (12, .if_icmp .ge 47), (15, .iload_n 1), (16, .ifCond .lt 43), (19, .aload_n 0), (20, .iload_n 3), (21, .invokevirtual 248), (24, .istore 4), (26, .iload 4), (28, .iconst (-1)), (29, .if_icmp .eq 24), (32, .aload_n 0), (33, .iload 4), (35, .invokevirtual 278), (38, .ifCond .eq 6), (41, .goto 12), (44, .iload_n 2), (45, .ifCond .ne 5), (48, .iload_n 3), (49, .ireturn), (50, .iinc 2 (-1)), (53, .iinc 3 1), (56, .goto (-47)), (59, .iconst (-1)), (60, .ireturn)]
def gdf (ci : Nat) : List Value := match ci with
  | 0 => [.null, .null, .null, .null, .null, .null]
  | 1 => [.null, .null, .int 0, .int 0]
  | 2 => [.null, .int 0]
  | 3 => [.int 0, .int 0, .int 0, .int 0, .int 0, .int 0, .int 0]
  | 4 => [.null, .null, .null, .null, .null, .int 0, .int 0]
  | 5 => [.int 0, .null, .int 0]
  | 6 => [.int 0, .null, .int 0]
  | 7 => [.null, .null, .int 0, .int 0, .int 0, .int 0, .int 0, .int 0, .int 0]
  | 8 => [.null, .null, .int 0, .int 0, .int 0]
  | 9 => [.int 0, .int 0, .null, .null, .long 0, .int 0]
  | 10 => [.int 0, .null, .null, .null, .null, .null, .null, .null, .null, .null, .null, .null, .null, .int 0, .null, .null, .null, .int 0, .null, .int 0, .null, .int 0, .int 0, .int 0, .int 0, .int 0, .null, .null, .null, .int 0, .null, .int 0, .int 0, .int 0, .int 0, .int 0, .int 0, .int 0, .int 0]
  | 11 => [.null, .null, .null, .null, .null, .int 0]
  | _ => [.null, .null, .null, .null, .null, .int 0]
def gON : List String := ["DrillArchive", "DrillArchive$Drawing", "DrillArchive$FileSet", "DrillArchive$Hit", "DrillArchive$Planner", "DrillArchive$Row", "DrillArchive$StoredFile", "DrillArchive$TextReader", "DrillArchive$TextWriter", "DrillArchive$Tool", "DrillArchiveModel", "java/lang/IllegalArgumentException", "java/lang/IndexOutOfBoundsException", "DrillArchiveLaw", "java/util/Arrays", "java/lang/Math", "java/lang/String", "java/lang/StringLatin1", "java/lang/Throwable", "java/lang/Throwable", "java/lang/Exception", "java/lang/RuntimeException", "jdk/internal/util/Preconditions"]
/-- getfield, putfield: owner, pool entry, class, field; 0 plain, 1 final, 2 of a nest mate -/
def gFL : List (Nat × Nat × Nat × Nat × Nat) := [(0, 10, 0, 0, 1), (0, 21, 0, 1, 1), (0, 30, 0, 2, 1), (0, 34, 0, 3, 1), (0, 40, 0, 4, 0), (0, 47, 0, 5, 0), (0, 124, 1, 3, 2), (0, 142, 9, 3, 2), (0, 147, 9, 4, 2), (0, 151, 9, 2, 2), (0, 154, 5, 2, 2), (0, 186, 2, 1, 2), (0, 193, 6, 1, 2), (0, 199, 6, 2, 2), (1, 11, 1, 0, 1), (1, 19, 1, 1, 1), (1, 23, 1, 2, 0), (1, 30, 3, 0, 2), (1, 37, 1, 3, 0), (2, 11, 2, 0, 1), (2, 25, 2, 1, 0), (2, 35, 6, 0, 2), (2, 55, 5, 2, 2), (2, 65, 6, 2, 2), (3, 7, 3, 0, 1), (3, 13, 3, 1, 1), (3, 16, 3, 2, 1), (3, 19, 3, 3, 1), (3, 22, 3, 4, 1), (3, 25, 3, 5, 1), (3, 28, 3, 6, 1), (4, 14, 4, 0, 1), (4, 20, 4, 1, 1), (4, 24, 4, 2, 1), (4, 28, 4, 3, 1), (4, 32, 4, 4, 1), (4, 35, 9, 5, 2), (4, 48, 4, 5, 0), (4, 65, 9, 2, 2), (4, 69, 5, 2, 2), (4, 90, 4, 6, 0), (5, 9, 5, 0, 1), (5, 15, 5, 1, 0), (5, 19, 5, 2, 0), (6, 14, 6, 1, 1), (6, 20, 6, 0, 1), (6, 28, 6, 2, 0), (6, 31, 5, 2, 2), (7, 9, 7, 5, 0), (7, 15, 7, 0, 1), (7, 19, 7, 1, 1), (7, 33, 7, 2, 0), (7, 36, 5, 2, 2), (7, 71, 7, 6, 0), (7, 74, 7, 3, 0), (7, 79, 7, 4, 0), (7, 94, 1, 2, 2), (7, 114, 7, 7, 0), (7, 117, 7, 8, 0), (8, 14, 8, 1, 1), (8, 20, 8, 0, 1), (8, 24, 8, 2, 0), (8, 28, 8, 3, 0), (8, 32, 8, 4, 0), (8, 42, 1, 2, 2), (8, 77, 9, 0, 2), (8, 82, 9, 1, 2), (8, 91, 9, 3, 2), (8, 94, 5, 2, 2), (8, 105, 3, 5, 2), (8, 110, 3, 6, 2), (8, 117, 3, 1, 2), (8, 120, 3, 2, 2), (8, 129, 3, 3, 2), (8, 132, 3, 4, 2), (9, 14, 9, 2, 1), (9, 20, 9, 3, 1), (9, 23, 9, 0, 1), (9, 27, 9, 1, 1), (9, 35, 9, 5, 0), (9, 41, 9, 4, 0), (10, 7, 10, 1, 1), (10, 13, 10, 2, 1), (10, 17, 10, 3, 1), (10, 21, 10, 4, 1), (10, 24, 10, 5, 1), (10, 27, 10, 6, 1), (10, 30, 10, 7, 1), (10, 33, 10, 8, 1), (10, 36, 10, 9, 1), (10, 39, 10, 10, 1), (10, 42, 10, 11, 1), (10, 45, 10, 12, 1), (10, 48, 10, 14, 1), (10, 51, 10, 15, 1), (10, 54, 10, 16, 1), (10, 57, 10, 18, 1), (10, 60, 10, 20, 1), (10, 63, 10, 26, 1), (10, 66, 10, 27, 1), (10, 69, 10, 28, 1), (10, 72, 10, 30, 1), (10, 75, 10, 0, 0), (10, 79, 10, 19, 0), (10, 82, 10, 25, 0), (10, 85, 10, 29, 0), (10, 127, 10, 13, 0), (10, 149, 10, 17, 0), (10, 175, 10, 21, 0), (10, 178, 10, 23, 0), (10, 198, 10, 24, 0), (10, 202, 10, 22, 0), (10, 212, 10, 35, 0), (10, 215, 10, 36, 0), (10, 218, 10, 37, 0), (10, 227, 10, 34, 0), (10, 233, 10, 38, 0), (10, 262, 10, 32, 0), (10, 265, 10, 31, 0), (10, 268, 10, 33, 0), (18, 7, 11, 0, 0), (18, 17, 11, 1, 0), (18, 24, 11, 2, 0), (18, 31, 11, 3, 0), (18, 198, 11, 4, 0), (19, 7, 12, 0, 0), (19, 17, 12, 1, 0), (19, 24, 12, 2, 0), (19, 31, 12, 3, 0), (19, 198, 12, 4, 0)]
/-- new, anewarray: owner, pool entry, class -/
def gKL : List (Nat × Nat × Nat) := [(0, 7, 4), (0, 16, 8), (0, 25, 5), (0, 37, 1), (0, 44, 2), (0, 55, 11), (0, 77, 12), (0, 88, 3), (0, 112, 7), (1, 9, 9), (1, 17, 3), (2, 9, 6), (4, 9, 3), (6, 9, 5), (7, 126, 3), (8, 9, 5), (9, 9, 5), (13, 8, 0), (13, 13, 11), (13, 19, 12), (13, 59, 10)]
def gCI : List (Nat × Nat × Int32) := [(5, 48, 1000000), (6, 34, 65521), (10, 258, 65521)]
def gCJ : List (Nat × Nat × Int64) := [(0, 212, 10000), (0, 214, -1000000), (0, 216, 1000000), (10, 88, -1000000), (10, 90, 1000000), (10, 92, 8), (10, 94, 10000), (10, 130, -1), (10, 155, 10), (10, 193, 48), (13, 62, 4294967295)]
def gCS : List (Nat × Nat × Nat) := [(0, 57, 7), (0, 79, 9), (0, 86, 10), (0, 97, 11), (0, 99, 12), (0, 132, 13), (0, 160, 14), (0, 172, 16), (0, 177, 17), (0, 205, 8), (0, 210, 15), (7, 41, 0), (7, 57, 4), (7, 65, 6), (7, 77, 1), (7, 90, 2), (7, 92, 3), (7, 120, 5), (8, 61, 6), (8, 67, 0), (8, 85, 2), (8, 87, 3), (8, 89, 4), (8, 127, 5)]
end
section
/-! OWN FRAME: one judgement Ex for a walk; a computed step for instructions that touch no cell -/
def xlen (i : ClassFile.Instr) : Nat := match i with
  | .bipush _ => 2
  | .iload _ => 2
  | .lload _ => 2
  | .aload _ => 2
  | .istore _ => 2
  | .lstore _ => 2
  | .astore _ => 2
  | .ldc _ => 2
  | .newarray _ => 2
  | .checkcast _ => 3
  | .putstatic _ => 3
  | .sipush _ => 3
  | .iinc _ _ => 3
  | .ifCond _ _ => 3
  | .if_icmp _ _ => 3
  | .if_acmp _ _ => 3
  | .goto _ => 3
  | .getfield _ => 3
  | .putfield _ => 3
  | .getstatic _ => 3
  | .invokevirtual _ => 3
  | .invokespecial _ => 3
  | .invokestatic _ => 3
  | .new _ => 3
  | .anewarray _ => 3
  | .ldc_w _ => 3
  | .ldc2_w _ => 3
  | .ifnull _ => 3
  | .ifnonnull _ => 3
  | _ => 1
def xfe : xT → Nat → Option ClassFile.Instr
  | [], _ => none
  | q :: r, pc => match Nat.beq q.1 pc with
    | true => some q.2
    | false => xfe r pc
theorem xfe_mem : ∀ (tb : xT) (pc : Nat) (i : ClassFile.Instr), xfe tb pc = some i → (pc, i) ∈ tb
  | [], _, _, h => by cases h
  | q :: t, pc, i, h => by
    unfold xfe at h
    split at h
    · rename_i hq
      cases h
      have := Nat.eq_of_beq_eq_true hq
      subst this
      exact List.mem_cons_self
    · exact List.mem_cons_of_mem _ (xfe_mem t pc i h)
def xget : List (Nat × Value) → Nat → Option Value
  | [], _ => none
  | q :: r, i => match Nat.beq q.1 i with
    | true => some q.2
    | false => xget r i
theorem xget_mem : ∀ (lv : List (Nat × Value)) (i : Nat) (v : Value), xget lv i = some v → (i, v) ∈ lv
  | [], _, _, h => by cases h
  | q :: t, i, v, h => by
    unfold xget at h
    split at h
    · rename_i hq
      cases h
      have := Nat.eq_of_beq_eq_true hq
      subst this
      exact List.mem_cons_self
    · exact List.mem_cons_of_mem _ (xget_mem t i v h)
theorem xget_has {ls : Array Slot} {nL : Nat} {lv : List (Nat × Value)} {i : Nat} {v : Value} (h : lv_has ls nL lv) (hg : xget lv i = some v) : ls[i]? = some (.val v) := h.2.2 (i, v) (xget_mem lv i v hg)
theorem xget_pos {lv : List (Nat × Value)} {i : Nat} {v : Value} (hg : xget lv i = some v) : ∃ k : Nat, lv[k]? = some (i, v) := List.mem_iff_getElem?.mp (xget_mem lv i v hg)
def xs1 (lv : List (Nat × Value)) (i : Nat) (v : Value) : List (Nat × Value) := (i, v) :: lv.filter (fun q => !(q.1 == i) && !(q.1 + 1 == i && q.2.category == 2))
def xs2 (lv : List (Nat × Value)) (i : Nat) (v : Value) : List (Nat × Value) := (i, v) :: lv.filter (fun q => !(q.1 == i) && (!(q.1 == i + 1) && !(q.1 + 1 == i && q.2.category == 2)))
abbrev xR : Type := Option (Nat × List (Nat × Value) × List Value)
/-- loads -/
def xsL (i : ClassFile.Instr) (pc : Nat) (lv : List (Nat × Value)) (st : List Value) : xR := match i with
  | .iload k => match xget lv k with
    | some (.int x) => some (pc + 2, lv, .int x :: st)
    | _ => none
  | .iload_n k => match xget lv k.val with
    | some (.int x) => some (pc + 1, lv, .int x :: st)
    | _ => none
  | .lload k => match xget lv k with
    | some (.long x) => some (pc + 2, lv, .long x :: st)
    | _ => none
  | .lload_n k => match xget lv k.val with
    | some (.long x) => some (pc + 1, lv, .long x :: st)
    | _ => none
  | .aload k => match xget lv k with
    | some (.ref x) => some (pc + 2, lv, .ref x :: st)
    | some .null => some (pc + 2, lv, .null :: st)
    | _ => none
  | .aload_n k => match xget lv k.val with
    | some (.ref x) => some (pc + 1, lv, .ref x :: st)
    | some .null => some (pc + 1, lv, .null :: st)
    | _ => none
  | _ => none
/-- constants -/
def xsC (i : ClassFile.Instr) (pc : Nat) (lv : List (Nat × Value)) (st : List Value) : xR := match i with
  | .iconst n => some (pc + 1, lv, .int (Int32.ofInt n) :: st)
  | .bipush n => some (pc + 2, lv, .int (Int8.ofInt n).toInt32 :: st)
  | .sipush n => some (pc + 3, lv, .int (Int16.ofInt n).toInt32 :: st)
  | .lconst n => some (pc + 1, lv, .long (Int64.ofNat (n : Nat)) :: st)
  | .aconst_null => some (pc + 1, lv, .null :: st)
  | _ => none
/-- stores, iinc, goto -/
def xsS (nL : Nat) (i : ClassFile.Instr) (pc : Nat) (lv : List (Nat × Value)) (st : List Value) : xR := match i with
  | .istore k => match st, Nat.blt k nL with
    | .int x :: r, true => some (pc + 2, xs1 lv k (.int x), r)
    | _, _ => none
  | .istore_n k => match st, Nat.blt k.val nL with
    | .int x :: r, true => some (pc + 1, xs1 lv k.val (.int x), r)
    | _, _ => none
  | .lstore k => match st, Nat.blt (k + 1) nL with
    | .long x :: r, true => some (pc + 2, xs2 lv k (.long x), r)
    | _, _ => none
  | .lstore_n k => match st, Nat.blt (k.val + 1) nL with
    | .long x :: r, true => some (pc + 1, xs2 lv k.val (.long x), r)
    | _, _ => none
  | .astore k => match st, Nat.blt k nL with
    | .ref x :: r, true => some (pc + 2, xs1 lv k (.ref x), r)
    | .null :: r, true => some (pc + 2, xs1 lv k .null, r)
    | _, _ => none
  | .astore_n k => match st, Nat.blt k.val nL with
    | .ref x :: r, true => some (pc + 1, xs1 lv k.val (.ref x), r)
    | .null :: r, true => some (pc + 1, xs1 lv k.val .null, r)
    | _, _ => none
  | .iinc k n => match xget lv k, Nat.blt k nL with
    | some (.int x), true => some (pc + 3, xs1 lv k (.int (x + Int32.ofInt n)), st)
    | _, _ => none
  | .goto off => match (pc : Int) + off with
    | .ofNat t => some (t, lv, st)
    | _ => none
  | _ => none
/-- ints, longs, the stack -/
def xsA (i : ClassFile.Instr) (pc : Nat) (lv : List (Nat × Value)) (st : List Value) : xR := match i with
  | .iadd => match st with
    | .int y :: .int x :: r => some (pc + 1, lv, .int (x + y) :: r)
    | _ => none
  | .isub => match st with
    | .int y :: .int x :: r => some (pc + 1, lv, .int (x - y) :: r)
    | _ => none
  | .imul => match st with
    | .int y :: .int x :: r => some (pc + 1, lv, .int (x * y) :: r)
    | _ => none
  | .iand => match st with
    | .int y :: .int x :: r => some (pc + 1, lv, .int (x &&& y) :: r)
    | _ => none
  | .ior => match st with
    | .int y :: .int x :: r => some (pc + 1, lv, .int (x ||| y) :: r)
    | _ => none
  | .ishl => match st with
    | .int y :: .int x :: r => some (pc + 1, lv, .int (x <<< (y &&& 31)) :: r)
    | _ => none
  | .ishr => match st with
    | .int y :: .int x :: r => some (pc + 1, lv, .int (x >>> (y &&& 31)) :: r)
    | _ => none
  | .ineg => match st with
    | .int x :: r => some (pc + 1, lv, .int (-x) :: r)
    | _ => none
  | .i2l => match st with
    | .int x :: r => some (pc + 1, lv, .long x.toInt64 :: r)
    | _ => none
  | .i2c => match st with
    | .int x :: r => some (pc + 1, lv, .int (x.toUInt32 % 65536).toInt32 :: r)
    | _ => none
  | .l2i => match st with
    | .long x :: r => some (pc + 1, lv, .int x.toInt32 :: r)
    | _ => none
  | .ladd => match st with
    | .long y :: .long x :: r => some (pc + 1, lv, .long (x + y) :: r)
    | _ => none
  | .lsub => match st with
    | .long y :: .long x :: r => some (pc + 1, lv, .long (x - y) :: r)
    | _ => none
  | .lmul => match st with
    | .long y :: .long x :: r => some (pc + 1, lv, .long (x * y) :: r)
    | _ => none
  | .land => match st with
    | .long y :: .long x :: r => some (pc + 1, lv, .long (x &&& y) :: r)
    | _ => none
  | .lor => match st with
    | .long y :: .long x :: r => some (pc + 1, lv, .long (x ||| y) :: r)
    | _ => none
  | .lshl => match st with
    | .int y :: .long x :: r => some (pc + 1, lv, .long (x <<< (y.toInt64 &&& 63)) :: r)
    | _ => none
  | .lcmp => match st with
    | .long y :: .long x :: r => some (pc + 1, lv, .int (lg_cmp x y) :: r)
    | _ => none
  | .dup => match st with
    | v :: r => match v.category with
      | 1 => some (pc + 1, lv, v :: v :: r)
      | _ => none
    | _ => none
  | .pop => match st with
    | v :: r => match v.category with
      | 1 => some (pc + 1, lv, r)
      | _ => none
    | _ => none
  | .dup2 => match st with
    | v :: w :: r => match v.category, w.category with
      | 1, 1 => some (pc + 1, lv, v :: w :: v :: w :: r)
      | _, _ => none
    | _ => none
  | _ => none
def xst (tb : xT) (nL pc : Nat) (lv : List (Nat × Value)) (st : List Value) : xR := match xfe tb pc with
  | none => none
  | some i => match xsL i pc lv st with
    | some r => some r
    | none => match xsC i pc lv st with
      | some r => some r
      | none => match xsS nL i pc lv st with
        | some r => some r
        | none => xsA i pc lv st
end
section
/-! OWN FRAME 2: the rows of part 03 over W -/
section XW
variable {p : Program} {l : Launch} {e : Env} {R : Room} {s : State} {m : MethodId} {args : Array Value} {below : List Frame} {meth : Method} {c : Code} {H : Heap} {locs : List Loc} {cells slots : Nat} {Q : State → Prop}
variable {cc : ByteArray} {pc pc' nL : Nat} {ls : Array Slot} {st st' : List Value} {lv lv' : List (Nat × Value)} {i : ClassFile.Instr}
theorem xsL_ok (hx : p.tables.exec = Jvm.exec) (hb : c.code = cc) (hd : decode cc pc = .ok (i, xlen i)) (hl : lv_has ls nL lv) (hs : xsL i pc lv st = some (pc', lv', st'))
    (k : ∀ ls' : Array Slot, lv_has ls' nL lv' → W p l e R s m args below meth c H locs cells slots Q (F0 m pc' ls' st')) : W p l e R s m args below meth c H locs cells slots Q (F0 m pc ls st) := by
  unfold xsL at hs
  split at hs
  · split at hs
    · rename_i hg; cases hs; exact lv_iload hx hb hd (xget_has hl hg) (k ls hl)
    · cases hs
  · split at hs
    · rename_i hg; cases hs; exact lv_iload_n hx hb hd rfl (xget_has hl hg) (k ls hl)
    · cases hs
  · split at hs
    · rename_i hg; cases hs; exact lv_lload hx hb hd (xget_has hl hg) (k ls hl)
    · cases hs
  · split at hs
    · rename_i hg; cases hs; exact lv_lload_n hx hb hd rfl (xget_has hl hg) (k ls hl)
    · cases hs
  · split at hs
    · rename_i hg; cases hs; exact lv_aload hx hb hd (xget_has hl hg) (k ls hl)
    · rename_i hg; cases hs; exact lv_aloadN hx hb hd (xget_has hl hg) (k ls hl)
    · cases hs
  · split at hs
    · rename_i hg; cases hs; exact lv_aload_n hx hb hd rfl (xget_has hl hg) (k ls hl)
    · rename_i hg; cases hs; exact lv_aload_nN hx hb hd rfl (xget_has hl hg) (k ls hl)
    · cases hs
  · cases hs
theorem xsC_ok (hx : p.tables.exec = Jvm.exec) (hb : c.code = cc) (hd : decode cc pc = .ok (i, xlen i)) (hl : lv_has ls nL lv) (hs : xsC i pc lv st = some (pc', lv', st'))
    (k : ∀ ls' : Array Slot, lv_has ls' nL lv' → W p l e R s m args below meth c H locs cells slots Q (F0 m pc' ls' st')) : W p l e R s m args below meth c H locs cells slots Q (F0 m pc ls st) := by
  unfold xsC at hs
  split at hs
  · cases hs; exact lv_iconst hx hb hd rfl (k ls hl)
  · cases hs; exact lv_bipush hx hb hd rfl (k ls hl)
  · cases hs; exact lv_sipush hx hb hd rfl (k ls hl)
  · cases hs; exact lv_lconst hx hb hd rfl (k ls hl)
  · cases hs; exact lv_null hx hb hd (k ls hl)
  · cases hs
theorem xsS_ok (hx : p.tables.exec = Jvm.exec) (hb : c.code = cc) (hd : decode cc pc = .ok (i, xlen i)) (hl : lv_has ls nL lv) (hs : xsS nL i pc lv st = some (pc', lv', st'))
    (k : ∀ ls' : Array Slot, lv_has ls' nL lv' → W p l e R s m args below meth c H locs cells slots Q (F0 m pc' ls' st')) : W p l e R s m args below meth c H locs cells slots Q (F0 m pc ls st) := by
  unfold xsS at hs
  split at hs
  · split at hs
    · rename_i hn; cases hs; exact lv_istore hx hb hd hl (Nat.blt_eq.mp hn) rfl k
    · cases hs
  · split at hs
    · rename_i hn; cases hs; exact lv_istore_n hx hb hd rfl hl (Nat.blt_eq.mp hn) rfl k
    · cases hs
  · split at hs
    · rename_i hn; cases hs; exact lv_lstore hx hb hd hl (Nat.blt_eq.mp hn) rfl k
    · cases hs
  · split at hs
    · rename_i hn; cases hs; exact lv_lstore_n hx hb hd rfl hl (Nat.blt_eq.mp hn) rfl k
    · cases hs
  · split at hs
    · rename_i hn; cases hs; exact lv_astore hx hb hd hl (Nat.blt_eq.mp hn) rfl k
    · rename_i hn; cases hs; exact lv_astoreN hx hb hd hl (Nat.blt_eq.mp hn) rfl k
    · cases hs
  · split at hs
    · rename_i hn; cases hs; exact lv_astore_n hx hb hd rfl hl (Nat.blt_eq.mp hn) rfl k
    · rename_i hn; cases hs; exact lv_astore_nN hx hb hd rfl hl (Nat.blt_eq.mp hn) rfl k
    · cases hs
  · split at hs
    · rename_i hg hn
      cases hs
      obtain ⟨kk, hk⟩ := xget_pos hg
      exact lv_iinc hx hb hd hl hk rfl (Nat.blt_eq.mp hn) rfl k
    · cases hs
  · split at hs
    · rename_i ht; cases hs; exact lv_goto hx hb hd ht (k ls hl)
    · cases hs
  · cases hs
theorem xsA_ok (hx : p.tables.exec = Jvm.exec) (hb : c.code = cc) (hd : decode cc pc = .ok (i, xlen i)) (hl : lv_has ls nL lv) (hs : xsA i pc lv st = some (pc', lv', st'))
    (k : ∀ ls' : Array Slot, lv_has ls' nL lv' → W p l e R s m args below meth c H locs cells slots Q (F0 m pc' ls' st')) : W p l e R s m args below meth c H locs cells slots Q (F0 m pc ls st) := by
  unfold xsA at hs
  split at hs
  · split at hs
    · cases hs; exact lv_iadd hx hb hd (k ls hl)
    · cases hs
  · split at hs
    · cases hs; exact lv_isub hx hb hd (k ls hl)
    · cases hs
  · split at hs
    · cases hs; exact lv_imul hx hb hd (k ls hl)
    · cases hs
  · split at hs
    · cases hs; exact lv_iand hx hb hd (k ls hl)
    · cases hs
  · split at hs
    · cases hs; exact lv_ior hx hb hd (k ls hl)
    · cases hs
  · split at hs
    · cases hs; exact lv_ishl hx hb hd (k ls hl)
    · cases hs
  · split at hs
    · cases hs; exact lv_ishr hx hb hd (k ls hl)
    · cases hs
  · split at hs
    · cases hs; exact lv_ineg hx hb hd (k ls hl)
    · cases hs
  · split at hs
    · cases hs; exact lv_i2l hx hb hd rfl (k ls hl)
    · cases hs
  · split at hs
    · cases hs; exact lv_i2c hx hb hd rfl (k ls hl)
    · cases hs
  · split at hs
    · cases hs; exact lv_l2i hx hb hd rfl (k ls hl)
    · cases hs
  · split at hs
    · cases hs; exact lv_ladd hx hb hd (k ls hl)
    · cases hs
  · split at hs
    · cases hs; exact lv_lsub hx hb hd (k ls hl)
    · cases hs
  · split at hs
    · cases hs; exact lv_lmul hx hb hd (k ls hl)
    · cases hs
  · split at hs
    · cases hs; exact lv_land hx hb hd (k ls hl)
    · cases hs
  · split at hs
    · cases hs; exact lv_lor hx hb hd (k ls hl)
    · cases hs
  · split at hs
    · cases hs; exact lv_lshl hx hb hd rfl (k ls hl)
    · cases hs
  · split at hs
    · cases hs; exact W.lcmp hx hb hd (k ls hl)
    · cases hs
  · split at hs
    · split at hs
      · rename_i hc; cases hs; exact lv_dup hx hb hd hc (k ls hl)
      · cases hs
    · cases hs
  · split at hs
    · split at hs
      · rename_i hc; cases hs; exact lv_pop hx hb hd hc (k ls hl)
      · cases hs
    · cases hs
  · split at hs
    · split at hs
      · rename_i h1 h2; cases hs; exact lv_dup2_11 hx hb hd h1 h2 (k ls hl)
      · cases hs
    · cases hs
  · cases hs
theorem xst_ok {tb : xT} (hx : p.tables.exec = Jvm.exec) (hb : c.code = cc) (htb : ∀ q ∈ tb, decode cc q.1 = .ok (q.2, xlen q.2)) (hl : lv_has ls nL lv) (hs : xst tb nL pc lv st = some (pc', lv', st'))
    (k : ∀ ls' : Array Slot, lv_has ls' nL lv' → W p l e R s m args below meth c H locs cells slots Q (F0 m pc' ls' st')) : W p l e R s m args below meth c H locs cells slots Q (F0 m pc ls st) := by
  unfold xst at hs
  split at hs
  · cases hs
  · rename_i j hf
    have hd := htb _ (xfe_mem tb pc j hf)
    split at hs
    · rename_i r hr; cases hs; exact xsL_ok hx hb hd hl hr k
    · split at hs
      · rename_i r hr; cases hs; exact xsC_ok hx hb hd hl hr k
      · split at hs
        · rename_i r hr; cases hs; exact xsS_ok hx hb hd hl hr k
        · exact xsA_ok hx hb hd hl hs k
end XW
/-- branches: the condition, where it leads, what is left on the stack -/
def xbr (tb : xT) (pc : Nat) (st : List Value) : Option (Prop × Nat × List Value) := match xfe tb pc with
  | some (.ifCond cd off) => match st, (pc : Int) + off with
    | .int x :: r, .ofNat t => match cd with
      | .eq => some (x = 0, t, r)
      | .ne => some (x ≠ 0, t, r)
      | .lt => some (x < 0, t, r)
      | .ge => some (0 ≤ x, t, r)
      | .gt => some (0 < x, t, r)
      | .le => some (x ≤ 0, t, r)
    | _, _ => none
  | some (.if_icmp cd off) => match st, (pc : Int) + off with
    | .int y :: .int x :: r, .ofNat t => match cd with
      | .eq => some (x = y, t, r)
      | .ne => some (x ≠ y, t, r)
      | .lt => some (x < y, t, r)
      | .ge => some (y ≤ x, t, r)
      | .gt => some (y < x, t, r)
      | .le => some (x ≤ y, t, r)
    | _, _ => none
  | _ => none
end
section
/-! OWN FRAME 3: the judgement Ex, contracts Ct -/
abbrev xM : Type := Nat × MethodName × ByteArray × Nat × Option FieldType × xT
/-- classes' numbers, their slots, array classes, String constants, their bytes -/
abbrev xD : Type := (Nat → ClassId) × (Nat → Nat → Nat) × (Nat → ClassId) × (Nat → Nat) × (Nat → Nat)
def gTB : List Cond := lw_tbl.filter goodWord
def isNst (w : Cond) : Bool := match w with
  | .fieldLinkNest .. => true
  | .methodLinkNest .. => true
  | _ => false
def gNW : List Cond := lw_tbl.filter isNst
def gTY (D : xD) : List (ClassId × FieldType) := [(D.2.2.1 0, .int), (D.2.2.1 1, .boolean), (D.2.2.1 2, .long), (D.2.2.1 3, .object "DrillArchive$Tool"), (D.2.2.1 4, .object "DrillArchive$Hit"), (D.2.2.1 5, .object "DrillArchive$StoredFile")]
def gAO : List String := ["DrillArchive$Tool", "DrillArchive$Hit", "DrillArchive$StoredFile"]
/-- what the tables say beside gTB -/
def gNX (D : xD) (U : State) : Prop := (∀ w ∈ gNW, va_Nw w U) ∧ ((∀ C ∈ gAO, va_AO C U) ∧ U.vm.assignable (D.1 11) (D.1 12) = false) ∧ ∀ q ∈ gST, vk_R q.1 q.2.1 q.2.2.1 (D.2.2.2.1 q.2.2.2) U
/-- a static field's place -/
def va_LS (C n d : String) (A : Nat → Prop) (U : State) (H : Heap) : Prop := ∃ (c : ClassId) (k : Class) (i : Nat) (f : Field) (a : Nat) (cell : Cell), U.vm.findClass C = some c ∧ U.fieldFound? C n d = some (c, k, i, f) ∧ f.isStatic = true ∧ k.statics = some a ∧ H[a]? = some cell ∧ cell.vm.isStatics = true ∧ cell.cls = c ∧ f.slot < cell.slots.size ∧ k.staticTypes[f.slot]? = some f.type ∧ ¬ A a
theorem va_LS.moved {C n d : String} {A : Nat → Prop} {u U : State} {H : Heap} (hvm : u.vm.Alike U.vm) (h : va_LS C n d A u H) : va_LS C n d A U H := by
  obtain ⟨c, k, i, f, a, cell, h0, h1, h2, h3, h4, h5, h6, h7, h8, h9⟩ := h
  obtain ⟨k', hi', he⟩ := State.fieldFound?_setVm hvm h1
  exact ⟨c, k', i, f, a, cell, by rw [hvm.findClass]; exact h0, hi', h2, by rw [he]; exact h3, h4, h5, h6, h7, by rw [he]; exact h8, h9⟩
theorem va_LS.kept {C n d : String} {A : Nat → Prop} {U : State} {H H1 : Heap} (h : va_LS C n d A U H) (hq : ∀ a : Nat, a < H.size → ¬ A a → H1[a]? = H[a]?) : va_LS C n d A U H1 := by
  obtain ⟨c, k, i, f, a, cell, h0, h1, h2, h3, h4, h5, h6, h7, h8, h9⟩ := h
  exact ⟨c, k, i, f, a, cell, h0, h1, h2, h3, by rw [hq a (Array.getElem?_eq_some_iff.mp h4).1 h9]; exact h4, h5, h6, h7, h8, h9⟩
theorem va_LS.narrow {C n d : String} {A B : Nat → Prop} {U : State} {H : Heap} (h : va_LS C n d A U H) (hAB : ∀ q, B q → A q) : va_LS C n d B U H := by
  obtain ⟨c, k, i, f, a, cell, h0, h1, h2, h3, h4, h5, h6, h7, h8, h9⟩ := h
  exact ⟨c, k, i, f, a, cell, h0, h1, h2, h3, h4, h5, h6, h7, h8, fun z => h9 (hAB a z)⟩
/-- what lies in the heap outside A: the String constants -/
def gSX (D : xD) (A : Nat → Prop) (U : State) (H : Heap) : Prop := vk_S gSN gSL gSB D.2.2.2.1 D.2.2.2.2 A U H ∧ va_Z "java/lang/String" "COMPACT_STRINGS" "Z" (.int 1) A U H ∧ va_Zq "jdk/internal/util/Preconditions" "SIOOBE_FORMATTER" "Ljava/util/function/BiFunction;" A U H ∧ va_Zq "java/lang/Throwable" "UNASSIGNED_STACK" "[Ljava/lang/StackTraceElement;" A U H ∧ va_Zq "java/lang/Throwable" "SUPPRESSED_SENTINEL" "Ljava/util/List;" A U H ∧ va_LS "java/lang/Throwable" "UNASSIGNED_STACK" "[Ljava/lang/StackTraceElement;" A U H ∧ va_LS "java/lang/Throwable" "SUPPRESSED_SENTINEL" "Ljava/util/List;" A U H
theorem gNX.same {D : xD} {u U : State} (hv : U.vm = u.vm) (h : gNX D u) : gNX D U := by
  refine ⟨fun w hw => ?_, ⟨fun C hC => ?_, by rw [hv]; exact h.2.1.2⟩, fun q hq => (h.2.2 q hq).same hv⟩
  · have h1 := h.1 w hw
    have h2 := (List.mem_filter.mp hw).2
    cases w <;> first | exact va_Nw.same rfl hv.symm h1 | (simp [isNst] at h2)
  · exact (h.2.1.1 C hC).moved (by rw [hv]; exact Vm.Alike.refl _)
theorem gNX.warm {D : xD} {s U : State} (hW : s.WarmedH U.vm) (h : gNX D s) : gNX D U := by
  refine ⟨fun w hw => ?_, ⟨fun C hC => (h.2.1.1 C hC).moved hW.alike, by rw [hW.alike.assignable]; exact h.2.1.2⟩, fun q hq => (h.2.2 q hq).warm hW⟩
  have h1 := h.1 w hw
  have h2 := (List.mem_filter.mp hw).2
  cases w <;> first | exact va_Nw.warmF hW h1 | exact va_Nw.warmM hW h1 | (simp [isNst] at h2)
theorem gSX.moved {D : xD} {A : Nat → Prop} {u U : State} {H : Heap} (hvm : u.vm.Alike U.vm) (h : gSX D A u H) : gSX D A U H := ⟨h.1.moved hvm, h.2.1.moved hvm, h.2.2.1.moved hvm, h.2.2.2.1.moved hvm, h.2.2.2.2.1.moved hvm, h.2.2.2.2.2.1.moved hvm, h.2.2.2.2.2.2.moved hvm⟩
theorem gSX.kept {D : xD} {A : Nat → Prop} {U : State} {H H1 : Heap} (h : gSX D A U H) (hq : ∀ a : Nat, a < H.size → ¬ A a → H1[a]? = H[a]?) : gSX D A U H1 := ⟨h.1.kept hq, h.2.1.kept hq, h.2.2.1.kept hq, h.2.2.2.1.kept hq, h.2.2.2.2.1.kept hq, h.2.2.2.2.2.1.kept hq, h.2.2.2.2.2.2.kept hq⟩
theorem gSX.narrow {D : xD} {A B : Nat → Prop} {U : State} {H : Heap} (h : gSX D A U H) (hAB : ∀ q, B q → A q) : gSX D B U H := ⟨h.1.narrow hAB, h.2.1.narrow hAB, h.2.2.1.narrow hAB, h.2.2.2.1.narrow hAB, h.2.2.2.2.1.narrow hAB, h.2.2.2.2.2.1.narrow hAB, h.2.2.2.2.2.2.narrow hAB⟩
abbrev xG (D : xD) : va_G := (D.1, D.2.1)
/-- what stays the same in a method's walk -/
def Fx (M : xM) (D : xD) (A : Nat → Prop) (p : Program) (s : State) (m : MethodId) (args : Array Value) (meth : Method) (c : Code) : Prop :=
  gON[M.1]? = some M.2.1.cls ∧ p.tables.exec = Jvm.exec ∧ c.code = M.2.2.1 ∧ c.maxLocals = M.2.2.2.1 ∧ meth.sig.returnType = M.2.2.2.2.1 ∧ s.vm.findClass M.2.1.cls = some m.cls ∧ (∀ w ∈ gTB, w.before args s = true) ∧ meth.locks = false ∧ (meth.name = M.2.1.name ∧ s.methodNamed? M.2.1 = some m ∧ ∀ q : Nat, A q → ∀ cell : Cell, s.heap[q]? = some cell → cell.vm.isStatics = false) ∧
  va_K (xG D) gCL (gTY D) s ∧ gNX D s ∧ gSX D A s s.heap ∧ (∀ q : Nat, s.heap.size ≤ q → A q) ∧ ∀ q ∈ M.2.2.2.2.2, decode M.2.2.1 q.1 = .ok (q.2, xlen q.2)
/-- a method's end, by a return or by a throw -/
def MQx (below : List Frame) (Q : Array Value → State → Outcome → State → Prop) (a : Array Value) (s : State) (mc ms : Nat) (free : Addr → Prop) : State → Prop := fun t =>
  ∃ o, t.status = .running ∧ Ended t below o ∧ Q a s o t ∧ s.WarmedH t.vm ∧ ∃ L, s.sameButNew ({ t with vm := s.vm } : State) L mc ms ∧ ∀ q ∈ L, free q.base
theorem MQ.x {below : List Frame} {Q : Array Value → State → Outcome → State → Prop} {a : Array Value} {s t : State} {mc ms : Nat} {free : Addr → Prop} (h : MQ below Q a s mc ms free t) : MQx below Q a s mc ms free t := by
  obtain ⟨o, h1, h2, h3, L, ⟨-, h4, h5⟩, h6⟩ := h
  exact ⟨o, h1, h2, h3, h4, L, h5, h6⟩
theorem W.x {p : Program} {l : Launch} {e : Env} {R : Room} {s : State} {m : MethodId} {args a : Array Value} {below : List Frame} {meth : Method} {c : Code} {H : Heap} {locs : List Loc} {cells slots mc ms : Nat} {Q : Array Value → State → Outcome → State → Prop} {free : Addr → Prop} {g : JFrame} (h : W p l e R s m args below meth c H locs cells slots (MQ below Q a s mc ms free) g) : W p l e R s m args below meth c H locs cells slots (MQx below Q a s mc ms free) g := by
  intro T hT X
  obtain ⟨t, h1, h2⟩ := h T hT X
  exact ⟨t, h1, h2.x⟩
theorem va_at.plain {D : va_G} {cl : List vw_C} {q : Nat × va_E} {H : Heap} (h : va_at D cl q H) {cell : Cell} (hc : H[q.1]? = some cell) : cell.vm.isStatics = false := by
  obtain ⟨a, w⟩ := q
  cases w with
  | inl x =>
    have h : H[a]? = some (vp_cell x.1 x.2) := h
    have hc : H[a]? = some cell := hc
    rw [h] at hc
    cases hc
    obtain ⟨x1, x2, x3⟩ := x
    unfold vp_cell
    split <;> rfl
  | inr o =>
    obtain ⟨r, -, cell', h1, -, h2, -⟩ := h
    cases h1.symm.trans hc
    rw [h2]
    rfl
theorem va_A.plain {D : va_G} {cl : List vw_C} {ws : va_W} {H : Heap} (h : va_P D cl ws H) (q : Nat) (hq : va_A ws H.size q) (cell : Cell) (hc : H[q]? = some cell) : cell.vm.isStatics = false := by
  rcases hq with ⟨k, w, hq⟩ | hq
  · exact (h k _ hq).plain hc
  · have := (Array.getElem?_eq_some_iff.mp hc).1
    omega
/-- the walk's judgement: segments S of cells, locals lv, stack st; Q the method's end; at most mc cells of ms slots in all -/
def Ex (l : Launch) (M : xM) (D : xD) (R : Room) (A : Nat → Prop) (Q : Array Value → State → Outcome → State → Prop) (mc ms : Nat) (pc : Nat) (lv : List (Nat × Value)) (st : List Value) (S : List va_W) (k n : Nat) : Prop :=
  ∀ (p : Program) (e : Env) (s : State) (m : MethodId) (args : Array Value) (below : List Frame) (meth : Method) (c : Code) (H : Heap) (locs : List Loc) (ls : Array Slot),
    Fx M D A p s m args meth c → va_S A s.heap H locs → va_P (xG D) gCL S.flatten H → va_D A S.flatten → lv_has ls M.2.2.2.1 lv →
    W p l e R s m args below meth c H locs k n (MQx below Q args s mc ms A) (F0 m pc ls st)
/-- the words of a method: its code, the tables -/
def xW (M : xM) : List Cond := .code M.2.1 M.2.2.1 M.2.2.2.1 M.2.2.2.2.1 :: gTB
/-- a method's end: an answer and the segments left -/
def xQ (D : xD) (A : Nat → Prop) (Q : Option Value → List va_W → Prop) : Array Value → State → Outcome → State → Prop := fun _ st o t =>
  (∃ (v : Option Value) (S : List va_W), o = .returned v ∧ Q v S ∧ va_P (xG D) gCL S.flatten t.heap ∧ va_D A S.flatten) ∧ va_F A st t
/-- a method's start -/
def xP (D : xD) (av : List Value) (S : List va_W) (sz : Nat) : Array Value → State → Prop :=
  va_Pc av (fun U => U.heap.size = sz ∧ va_P (xG D) gCL S.flatten U.heap ∧ va_K (xG D) gCL (gTY D) U ∧ va_D (fun _ => True) S.flatten ∧ gNX D U ∧ gSX D (va_A S.flatten sz) U U.heap)
/-- A CONTRACT: from the arguments av and the segments S method M returns v and leaves S' with Q v S' -/
def Ct (l : Launch) (M : xM) (D : xD) (R : Room) (av : List Value) (S : List va_W) (Q : Option Value → List va_W → Prop) : Prop :=
  ∀ sz : Nat, Met l M.2.1 (xW M) R (xP D av S sz) (xQ D (va_A S.flatten sz) Q) R.cells R.slots (va_A S.flatten sz)
theorem Ct.of {l : Launch} {M : xM} {D : xD} {R : Room} {av : List Value} {S : List va_W} {Q : Option Value → List va_W → Prop} (ho : gON[M.1]? = some M.2.1.cls) (hy : plainName M.2.1.cls = true) (htb : ∀ q ∈ M.2.2.2.2.2, decode M.2.2.1 q.1 = .ok (q.2, xlen q.2)) (hn : (lg_sl av).length ≤ M.2.2.2.1)
    (h : ∀ A : Nat → Prop, Ex l M D R A (xQ D A Q) R.cells R.slots 0 (lv_args 0 av) [] S 0 0) : Ct l M D R av S Q := by
  intro sz
  refine Met.ofW (cc := M.2.2.1) (maxL := M.2.2.2.1) (ret := M.2.2.2.2.1) hy rfl ?_
  intro p e s m args below meth c s₁ B hml hv
  obtain ⟨rfl, hsz, hP, hK, hD, hN, hX⟩ := hv
  subst hsz
  have hts : ∀ w ∈ xW M, w.before _ s = true := atoms_spec (ws := xW M) B.pre
  have hown : s.vm.findClass M.2.1.cls = some m.cls := findClass_of_methodNamed B.named
  rw [lg_entry_eq]
  have hw := h (va_A S.flatten s.heap.size) p e s m av.toArray below meth c s.heap [] _ ⟨ho, B.exec, B.bytes, hml, B.returns, hown, fun w hw => hts w (List.mem_cons_of_mem _ hw), B.notSynchronized, ⟨(name_of_methodNamed B.named B.method).1, B.named, va_A.plain hP⟩, hK, hN, hX, fun q hq => Or.inr hq, htb⟩
    va_S.rf hP (hD.self (sz := s.heap.size)) (lv_entry av hn)
  intro T hT X
  obtain ⟨t, h1, o, h2, h3, h4, h5, L, h6, h7⟩ := hw T hT X
  obtain ⟨⟨v, S', rfl, -⟩, -⟩ := id h4
  exact ⟨t, h1, .returned v, h2, h3, h4, L, ⟨⟨v, rfl⟩, h5, h6⟩, h7⟩
section XE
variable {l : Launch} {M : xM} {D : xD} {R : Room} {A : Nat → Prop} {Q : Array Value → State → Outcome → State → Prop} {mc ms pc pc' k n : Nat} {lv lv' : List (Nat × Value)} {st st' : List Value} {S S' : List va_W}
/-- a step that touches no cell -/
theorem Ex.p (hs : xst M.2.2.2.2.2 M.2.2.2.1 pc lv st = some (pc', lv', st')) (kk : Ex l M D R A Q mc ms pc' lv' st' S k n) : Ex l M D R A Q mc ms pc lv st S k n := by
  intro p e s m args below meth c H locs ls F hS hP hD hl
  obtain ⟨-, hx, hb, -, -, -, -, -, -, -, -, -, -, htb⟩ := id F
  exact xst_ok hx hb htb hl hs (fun ls' hl' => kk p e s m args below meth c H locs ls' F hS hP hD hl')
/-- a branch -/
theorem Ex.br {P : Prop} (hs : xbr M.2.2.2.2.2 pc st = some (P, pc', st')) (kt : P → Ex l M D R A Q mc ms pc' lv st' S k n) (kf : ¬ P → Ex l M D R A Q mc ms (pc + 3) lv st' S k n) : Ex l M D R A Q mc ms pc lv st S k n := by
  intro p e s m args below meth c H locs ls F hS hP hD hl
  obtain ⟨-, hx, hb, -, -, -, -, -, -, -, -, -, -, htb⟩ := id F
  have kt' := fun h => kt h p e s m args below meth c H locs ls F hS hP hD hl
  have kf' := fun h => kf h p e s m args below meth c H locs ls F hS hP hD hl
  unfold xbr at hs
  split at hs
  · rename_i cd off hf
    have hd := htb _ (xfe_mem _ _ _ hf)
    split at hs
    · rename_i ht
      cases cd <;> cases hs
      · exact lv_if_eq hx hb hd ht kt' kf'
      · exact lv_if_ne hx hb hd ht kt' (fun h => kf' (fun q => q h))
      · exact lv_if_lt hx hb hd ht kt' kf'
      · exact lv_if_ge hx hb hd ht kt' kf'
      · exact lv_if_gt hx hb hd ht kt' kf'
      · exact lv_if_le hx hb hd ht kt' kf'
    · cases hs
  · rename_i cd off hf
    have hd := htb _ (xfe_mem _ _ _ hf)
    split at hs
    · rename_i ht
      cases cd <;> cases hs
      · exact lv_icmp_eq hx hb hd ht kt' kf'
      · exact lv_icmp_ne hx hb hd ht kt' (fun h => kf' (fun q => q h))
      · exact lv_icmp_lt hx hb hd ht kt' kf'
      · exact lv_icmp_ge hx hb hd ht kt' kf'
      · exact lv_icmp_gt hx hb hd ht kt' kf'
      · exact lv_icmp_le hx hb hd ht kt' kf'
    · cases hs
  · cases hs
/-- the same walk, said otherwise -/
theorem Ex.is (js : List Nat) (h1 : lv_pick lv js = lv') (h2 : S.flatten = S'.flatten) (kk : Ex l M D R A Q mc ms pc lv' st S' k n) : Ex l M D R A Q mc ms pc lv st S k n := by
  intro p e s m args below meth c H locs ls F hS hP hD hl
  exact kk p e s m args below meth c H locs ls F hS (h2 ▸ hP) (h2 ▸ hD) (lv_sub hl _ h1)
theorem Ex.more {k' n' : Nat} (h1 : k ≤ k') (h2 : n ≤ n') (kk : Ex l M D R A Q mc ms pc lv st S k' n') : Ex l M D R A Q mc ms pc lv st S k n := by
  intro p e s m args below meth c H locs ls F hS hP hD hl
  exact W.widen h1 h2 (kk p e s m args below meth c H locs ls F hS hP hD hl)
end XE
end
section
/-! OWN FRAME 4: rows that read and write cells -/
def xfd : List (Nat × Nat × Nat × Nat × Nat) → Nat → Nat → Option (Nat × Nat × Nat)
  | [], _, _ => none
  | q :: r, a, b => match Nat.beq q.1 a && Nat.beq q.2.1 b with
    | true => some q.2.2
    | false => xfd r a b
theorem xfd_mem : ∀ (t : List (Nat × Nat × Nat × Nat × Nat)) (a b : Nat) (r : Nat × Nat × Nat), xfd t a b = some r → (a, b, r) ∈ t
  | [], _, _, _, h => by cases h
  | q :: t, a, b, r, h => by
    unfold xfd at h
    split at h
    · rename_i hq
      cases h
      rw [Bool.and_eq_true] at hq
      have h1 := Nat.eq_of_beq_eq_true hq.1
      have h2 := Nat.eq_of_beq_eq_true hq.2
      subst h1; subst h2
      exact List.mem_cons_self
    · exact List.mem_cons_of_mem _ (xfd_mem t a b r h)
def gty (r : vw_C) (k : Nat) : FieldType := (parseFieldDescriptor (r.2.1 k).2.2.1).getD .int
def gFc (q : Nat × Nat × Nat × Nat × Nat) : Prop := match gON[q.1]?, gCL[q.2.2.1]? with
  | some own, some r => q.2.2.2.1 < r.2.2 ∧ True ∧ (match q.2.2.2.2 with
    | 0 => (r.2.1 q.2.2.2.1).2.2.2 = false ∧ Cond.fieldLink own q.2.1 (r.2.1 q.2.2.2.1).1 (r.2.1 q.2.2.2.1).2.1 (r.2.1 q.2.2.2.1).2.2.1 ∈ gTB
    | 1 => (r.2.1 q.2.2.2.1).2.2.2 = true ∧ Cond.fieldLink own q.2.1 (r.2.1 q.2.2.2.1).1 (r.2.1 q.2.2.2.1).2.1 (r.2.1 q.2.2.2.1).2.2.1 ∈ gTB
    | _ => Cond.fieldLinkNest own q.2.1 (r.2.1 q.2.2.2.1).1 (r.2.1 q.2.2.2.1).2.1 (r.2.1 q.2.2.2.1).2.2.1 "DrillArchive" ∈ gNW)
  | _, _ => False
def gCc (r : vw_C) : Prop := (∀ w ∈ u_ws r.1 r.2.1 r.2.2, w ∈ gTB) ∧ (∀ k, k < r.2.2 → parseFieldDescriptor (r.2.1 k).2.2.1 = some (gty r k)) ∧ (∀ a, a < r.2.2 → ∀ b, b < r.2.2 → a ≠ b → (r.2.1 a).2.1 ≠ (r.2.1 b).2.1) ∧ Cond.instantiable r.1 r.2.2 ∈ gTB ∧ Cond.initialized r.1 ∈ gTB
theorem gCL_ok : ∀ r ∈ gCL, gCc r := by
  unfold gCc
  decide +kernel
def gFb (q : Nat × Nat × Nat × Nat × Nat) : Bool := match gON[q.1]?, gCL[q.2.2.1]? with
  | some own, some r => Nat.blt q.2.2.2.1 r.2.2 && (match q.2.2.2.2 with
    | 0 => decide ((r.2.1 q.2.2.2.1).2.2.2 = false) && decide (Cond.fieldLink own q.2.1 (r.2.1 q.2.2.2.1).1 (r.2.1 q.2.2.2.1).2.1 (r.2.1 q.2.2.2.1).2.2.1 ∈ gTB)
    | 1 => decide ((r.2.1 q.2.2.2.1).2.2.2 = true) && decide (Cond.fieldLink own q.2.1 (r.2.1 q.2.2.2.1).1 (r.2.1 q.2.2.2.1).2.1 (r.2.1 q.2.2.2.1).2.2.1 ∈ gTB)
    | _ => decide (Cond.fieldLinkNest own q.2.1 (r.2.1 q.2.2.2.1).1 (r.2.1 q.2.2.2.1).2.1 (r.2.1 q.2.2.2.1).2.2.1 "DrillArchive" ∈ gNW))
  | _, _ => false
theorem gFL_b : gFL.all gFb = true := by decide +kernel
theorem gFL_ok {q : Nat × Nat × Nat × Nat × Nat} (h : q ∈ gFL) : gFc q := by
  have h1 := List.all_eq_true.mp gFL_b q h
  unfold gFb at h1
  unfold gFc
  split at h1
  · rename_i own r e1 e2
    simp only [Bool.and_eq_true, decide_eq_true_eq, Nat.blt_eq] at h1
    obtain ⟨a1, a3⟩ := h1
    refine ⟨a1, trivial, ?_⟩
    split at a3 <;> simp_all
  · cases h1
/-- a place of a segment is a place of the whole -/
theorem fl_pos : ∀ (S : List va_W) (i j : Nat) (C : va_W) (x : Nat × va_E), S[i]? = some C → C[j]? = some x → ∃ q0 : Nat, S.flatten[q0]? = some x ∧ ∀ y, S.flatten.set q0 y = (S.set i (C.set j y)).flatten
  | [], i, j, C, x, h, _ => by simp at h
  | B :: S, 0, j, C, x, h, hx => by
    simp only [List.getElem?_cons_zero, Option.some.injEq] at h
    subst h
    have hj : j < B.length := (List.getElem?_eq_some_iff.mp hx).1
    refine ⟨j, ?_, fun y => ?_⟩
    · rw [List.flatten_cons, List.getElem?_append_left hj, hx]
    · rw [List.flatten_cons, List.set_append_left _ _ hj, List.set_cons_zero, List.flatten_cons]
  | B :: S, i + 1, j, C, x, h, hx => by
    simp only [List.getElem?_cons_succ] at h
    obtain ⟨q0, e1, e2⟩ := fl_pos S i j C x h hx
    refine ⟨B.length + q0, ?_, fun y => ?_⟩
    · rw [List.flatten_cons, List.getElem?_append_right (by omega)]
      simpa using e1
    · rw [List.flatten_cons, List.set_append_right _ _ (by omega), List.set_cons_succ, List.flatten_cons, ← e2 y]
      simp
theorem vp_in_int {x : Int32} {j N : Nat} (hx : x.toInt = j) (hj : j < N) : vp_in x N := vp_in_iff.mpr ⟨by omega, by omega⟩
theorem clamp_int {x : Int32} {j : Nat} (hx : x.toInt = j) : x.toNatClampNeg = j := by
  show x.toInt.toNat = j
  rw [hx]
  exact Int.toNat_natCast j
section XH
variable {l : Launch} {M : xM} {D : xD} {R : Room} {A : Nat → Prop} {Q : Array Value → State → Outcome → State → Prop} {mc ms pc pc' k n : Nat} {lv lv' : List (Nat × Value)} {st st' : List Value} {S S' : List va_W} {C : va_W} {a : Nat} {ce : va_E}
def xgf (M : xM) (pc : Nat) (ce : va_E) : Option Value := match xfe M.2.2.2.2.2 pc with
  | some (.getfield ix) => match xfd gFL M.1 ix with
    | some (ci, fk, _) => match ce with
      | .inr (cj, fs) => match Nat.beq ci cj with
        | true => fs[fk]?
        | false => none
      | _ => none
    | none => none
  | _ => none
theorem Ex.gf (i j : Nat) {v : Value} (hi : S[i]? = some C) (hj : C[j]? = some (a, ce)) (hg : xgf M pc ce = some v) (kk : Ex l M D R A Q mc ms (pc + 3) lv (v :: st) S k n) : Ex l M D R A Q mc ms pc lv (.ref a :: st) S k n := by
  intro p e s m args below meth c H locs ls F hS hP hD hl
  obtain ⟨ho, hx, hb, -, -, hown, hts, -, -, hK, hN, -, -, htb⟩ := id F
  obtain ⟨q0, hq0, -⟩ := fl_pos S i j C _ hi hj
  have kk' := kk p e s m args below meth c H locs ls F hS hP hD hl
  unfold xgf at hg
  split at hg
  · rename_i ix hf
    have hd := htb _ (xfe_mem _ _ _ hf)
    split at hg
    · rename_i ci fk kd hfd
      split at hg
      · rename_i cj fs
        split at hg
        · rename_i hb2
          have hcc := Nat.eq_of_beq_eq_true hb2
          subst hcc
          have hok := gFL_ok (xfd_mem _ _ _ _ hfd)
          unfold gFc at hok
          split at hok
          · rename_i own r e1 e2
            have heq : own = M.2.1.cls := Option.some.inj (e1.symm.trans ho)
            subst heq
            obtain ⟨h1, h2, h3⟩ := hok
            have hr := gCL_ok r (List.mem_of_getElem? e2)
            split at h3
            · exact va_get hx hb hts hr.1 hown hK hP q0 hq0 e2 _ h1 (hts _ h3.2) (fun x hx => hx) hg hd kk'
            · exact va_get hx hb hts hr.1 hown hK hP q0 hq0 e2 _ h1 (hts _ h3.2) (fun x hx => hx) hg hd kk'
            · exact va_getN hx hb hts hr.1 hown hK hP q0 hq0 e2 _ h1 (va_Nw.use rfl (hN.1 _ h3)) (fun x hx => hx) hg hd kk'
          · cases hok
        · cases hg
      · cases hg
    · cases hg
  · cases hg
end XH
end
section
/-! OWN FRAME 5: more rows over cells -/
section XH2
variable {l : Launch} {M : xM} {D : xD} {R : Room} {A : Nat → Prop} {Q : Array Value → State → Outcome → State → Prop} {mc ms pc pc' k n : Nat} {lv lv' : List (Nat × Value)} {st st' : List Value} {S S' : List va_W} {C : va_W} {a : Nat} {ce : va_E}
/-- putfield: which field (class, place, kind) -/
def xpf (M : xM) (pc : Nat) : Option (Nat × Nat × Nat) := match xfe M.2.2.2.2.2 pc with
  | some (.putfield ix) => xfd gFL M.1 ix
  | _ => none
def xty (ci fk : Nat) : FieldType := match gCL[ci]? with
  | some r => gty r fk
  | none => .int
theorem gNM : gON = gCL.map (fun r => r.1) ++ gON.drop 13 := rfl
theorem gNM_at {i : Nat} {r : vw_C} (h : gCL[i]? = some r) : gON[i]? = some r.1 := by
  have hl := (List.getElem?_eq_some_iff.mp h).1
  rw [gNM, List.getElem?_append_left (by rw [List.length_map]; exact hl), List.getElem?_map, h]
  rfl
theorem Ex.pf (i j : Nat) {ci fk : Nat} {fs : List Value} {v : Value} (hi : S[i]? = some C) (hj : C[j]? = some (a, .inr (ci, fs))) (hg : xpf M pc = some (ci, fk, 0)) (hl9 : Nat.blt fk fs.length = true) (hn : narrow (xty ci fk) v = v) (hft : fits (xty ci fk) v = true) (kk : Ex l M D R A Q mc ms (pc + 3) lv st (S.set i (C.set j (a, .inr (ci, fs.set fk v)))) k n) : Ex l M D R A Q mc ms pc lv (v :: .ref a :: st) S k n := by
  intro p e s m args below meth c H locs ls F hS hP hD hl
  obtain ⟨ho, hx, hb, -, -, hown, hts, -, hin, hK, hN, hX, hA, htb⟩ := id F
  obtain ⟨q0, hq0, hset⟩ := fl_pos S i j C _ hi hj
  unfold xpf at hg
  split at hg
  · rename_i ix hf
    have hd := htb _ (xfe_mem _ _ _ hf)
    have hok := gFL_ok (xfd_mem _ _ _ _ hg)
    unfold gFc at hok
    split at hok
    · rename_i own r e1 e2
      have heq : own = M.2.1.cls := Option.some.inj (e1.symm.trans ho)
      subst heq
      obtain ⟨h1, h2, h3⟩ := hok
      have hr := gCL_ok r (List.mem_of_getElem? e2)
      have hty : xty ci fk = gty r fk := by unfold xty; rw [show gCL[ci]? = some r from e2]
      rw [hty] at hn hft
      refine va_put hx hb hts hr.1 (gty r) hr.2.1 hr.2.2.1 hown hK hP hD hS q0 hq0 e2 _ h1 (hts _ h3.2) (fun x hx => hx) h3.1 (hr.2.1 _ h1) hn hft (Nat.blt_eq.mp hl9) hd (fun H1 locs1 hP1 hD1 hS1 => ?_)
      rw [hset] at hP1 hD1
      exact kk p e s m args below meth c H1 locs1 ls F hS1 hP1 hD1 hl
    · cases hok
  · cases hg
theorem Ex.pfF (i j : Nat) {ci fk : Nat} {fs : List Value} {v : Value} (hi : S[i]? = some C) (hj : C[j]? = some (a, .inr (ci, fs))) (hg : xpf M pc = some (ci, fk, 1)) (hin0 : M.2.1.name = "<init>") (hci : (gCL[ci]?).map (fun r => (r.2.1 fk).1) = some M.2.1.cls) (hl9 : Nat.blt fk fs.length = true) (hn : narrow (xty ci fk) v = v) (hft : fits (xty ci fk) v = true) (kk : Ex l M D R A Q mc ms (pc + 3) lv st (S.set i (C.set j (a, .inr (ci, fs.set fk v)))) k n) : Ex l M D R A Q mc ms pc lv (v :: .ref a :: st) S k n := by
  intro p e s m args below meth c H locs ls F hS hP hD hl
  obtain ⟨ho, hx, hb, -, -, hown, hts, -, hin, hK, hN, hX, hA, htb⟩ := id F
  obtain ⟨q0, hq0, hset⟩ := fl_pos S i j C _ hi hj
  unfold xpf at hg
  split at hg
  · rename_i ix hf
    have hd := htb _ (xfe_mem _ _ _ hf)
    have hok := gFL_ok (xfd_mem _ _ _ _ hg)
    unfold gFc at hok
    split at hok
    · rename_i own r e1 e2
      have heq : own = M.2.1.cls := Option.some.inj (e1.symm.trans ho)
      subst heq
      obtain ⟨h1, h2, h3⟩ := hok
      have hr := gCL_ok r (List.mem_of_getElem? e2)
      have hty : xty ci fk = gty r fk := by unfold xty; rw [show gCL[ci]? = some r from e2]
      rw [hty] at hn hft
      have hdecl : (r.2.1 fk).1 = M.2.1.cls := by
        rw [show gCL[ci]? = some r from e2] at hci
        exact Option.some.inj hci
      refine va_putF hx hb hts hr.1 (gty r) hr.2.1 hr.2.2.1 hown hK hP hD hS q0 hq0 e2 _ h1 (hts _ h3.2) (fun x hx => hx) h3.1 (hin.1.trans hin0) hdecl (hr.2.1 _ h1) hn hft (Nat.blt_eq.mp hl9) hd (fun H1 locs1 hP1 hD1 hS1 => ?_)
      rw [hset] at hP1 hD1
      exact kk p e s m args below meth c H1 locs1 ls F hS1 hP1 hD1 hl
    · cases hok
  · cases hg
end XH2
end
section
section XH2
variable {l : Launch} {M : xM} {D : xD} {R : Room} {A : Nat → Prop} {Q : Array Value → State → Outcome → State → Prop} {mc ms pc pc' k n : Nat} {lv lv' : List (Nat × Value)} {st st' : List Value} {S S' : List va_W} {C : va_W} {a : Nat} {ce : va_E}
theorem Ex.ial (i j jx : Nat) {N : Nat} {f : Nat → Int32} {x : Int32} (hi : S[i]? = some C) (hj : C[j]? = some (a, .inl (D.2.2.1 0, N, .inl f))) (hf : xfe M.2.2.2.2.2 pc = some .iaload) (hx9 : x.toInt = jx) (hN9 : jx < N) (kk : Ex l M D R A Q mc ms (pc + 1) lv (.int (f jx) :: st) S k n) : Ex l M D R A Q mc ms pc lv (.int x :: .ref a :: st) S k n := by
  intro p e s m args below meth c H locs ls F hS hP hD hl
  obtain ⟨ho, hx, hb, -, -, hown, hts, -, hin, hK, hN, hX, hA, htb⟩ := id F
  have hd := htb _ (xfe_mem _ _ _ hf)
  obtain ⟨q0, hq0, -⟩ := fl_pos S i j C _ hi hj
  refine va_iald hx hb hK hP q0 0 hq0 rfl (vp_in_int hx9 hN9) hd ?_
  rw [clamp_int hx9]
  exact kk p e s m args below meth c H locs ls F hS hP hD hl
theorem Ex.zal (i j jx : Nat) {N : Nat} {f : Nat → Int32} {x : Int32} (hi : S[i]? = some C) (hj : C[j]? = some (a, .inl (D.2.2.1 1, N, .inl f))) (hf : xfe M.2.2.2.2.2 pc = some .baload) (hx9 : x.toInt = jx) (hN9 : jx < N) (kk : Ex l M D R A Q mc ms (pc + 1) lv (.int (f jx) :: st) S k n) : Ex l M D R A Q mc ms pc lv (.int x :: .ref a :: st) S k n := by
  intro p e s m args below meth c H locs ls F hS hP hD hl
  obtain ⟨ho, hx, hb, -, -, hown, hts, -, hin, hK, hN, hX, hA, htb⟩ := id F
  have hd := htb _ (xfe_mem _ _ _ hf)
  obtain ⟨q0, hq0, -⟩ := fl_pos S i j C _ hi hj
  refine va_zald hx hb hK hP q0 1 hq0 rfl (vp_in_int hx9 hN9) hd ?_
  rw [clamp_int hx9]
  exact kk p e s m args below meth c H locs ls F hS hP hD hl
theorem Ex.lal (i j jx : Nat) {N : Nat} {f : Nat → Int64} {x : Int32} (hi : S[i]? = some C) (hj : C[j]? = some (a, .inl (D.2.2.1 2, N, .inr (.inl f)))) (hf : xfe M.2.2.2.2.2 pc = some .laload) (hx9 : x.toInt = jx) (hN9 : jx < N) (kk : Ex l M D R A Q mc ms (pc + 1) lv (.long (f jx) :: st) S k n) : Ex l M D R A Q mc ms pc lv (.int x :: .ref a :: st) S k n := by
  intro p e s m args below meth c H locs ls F hS hP hD hl
  obtain ⟨ho, hx, hb, -, -, hown, hts, -, hin, hK, hN, hX, hA, htb⟩ := id F
  have hd := htb _ (xfe_mem _ _ _ hf)
  obtain ⟨q0, hq0, -⟩ := fl_pos S i j C _ hi hj
  refine va_lald hx hb hK hP q0 2 hq0 rfl (vp_in_int hx9 hN9) hd ?_
  rw [clamp_int hx9]
  exact kk p e s m args below meth c H locs ls F hS hP hD hl
theorem Ex.ias (i j jx : Nat) {N : Nat} {f : Nat → Int32} {x : Int32} {y : Int32} (hi : S[i]? = some C) (hj : C[j]? = some (a, .inl (D.2.2.1 0, N, .inl f))) (hf : xfe M.2.2.2.2.2 pc = some .iastore) (hx9 : x.toInt = jx) (hN9 : jx < N) (kk : Ex l M D R A Q mc ms (pc + 1) lv st (S.set i (C.set j (a, .inl (D.2.2.1 0, N, .inl (upd f jx y))))) k n) : Ex l M D R A Q mc ms pc lv (.int y :: .int x :: .ref a :: st) S k n := by
  intro p e s m args below meth c H locs ls F hS hP hD hl
  obtain ⟨ho, hx, hb, -, -, hown, hts, -, hin, hK, hN, hX, hA, htb⟩ := id F
  have hd := htb _ (xfe_mem _ _ _ hf)
  obtain ⟨q0, hq0, hset⟩ := fl_pos S i j C _ hi hj
  refine va_iast hx hb hK hP hD hS q0 0 hq0 rfl (vp_in_int hx9 hN9) hd (fun H1 locs1 hP1 hD1 hS1 => ?_)
  rw [clamp_int hx9, hset] at hP1 hD1
  exact kk p e s m args below meth c H1 locs1 ls F hS1 hP1 hD1 hl
theorem Ex.las (i j jx : Nat) {N : Nat} {f : Nat → Int64} {x : Int32} {y : Int64} (hi : S[i]? = some C) (hj : C[j]? = some (a, .inl (D.2.2.1 2, N, .inr (.inl f)))) (hf : xfe M.2.2.2.2.2 pc = some .lastore) (hx9 : x.toInt = jx) (hN9 : jx < N) (kk : Ex l M D R A Q mc ms (pc + 1) lv st (S.set i (C.set j (a, .inl (D.2.2.1 2, N, .inr (.inl (vp_updL f jx y)))))) k n) : Ex l M D R A Q mc ms pc lv (.long y :: .int x :: .ref a :: st) S k n := by
  intro p e s m args below meth c H locs ls F hS hP hD hl
  obtain ⟨ho, hx, hb, -, -, hown, hts, -, hin, hK, hN, hX, hA, htb⟩ := id F
  have hd := htb _ (xfe_mem _ _ _ hf)
  obtain ⟨q0, hq0, hset⟩ := fl_pos S i j C _ hi hj
  refine va_last hx hb hK hP hD hS q0 2 hq0 rfl (vp_in_int hx9 hN9) hd (fun H1 locs1 hP1 hD1 hS1 => ?_)
  rw [clamp_int hx9, hset] at hP1 hD1
  exact kk p e s m args below meth c H1 locs1 ls F hS1 hP1 hD1 hl
theorem Ex.zas (i j jx : Nat) {N : Nat} {f : Nat → Int32} {x : Int32} {y : Int32} (hi : S[i]? = some C) (hj : C[j]? = some (a, .inl (D.2.2.1 1, N, .inl f))) (hf : xfe M.2.2.2.2.2 pc = some .bastore) (hx9 : x.toInt = jx) (hN9 : jx < N) (hy9 : y = 0 ∨ y = 1) (kk : Ex l M D R A Q mc ms (pc + 1) lv st (S.set i (C.set j (a, .inl (D.2.2.1 1, N, .inl (upd f jx y))))) k n) : Ex l M D R A Q mc ms pc lv (.int y :: .int x :: .ref a :: st) S k n := by
  intro p e s m args below meth c H locs ls F hS hP hD hl
  obtain ⟨ho, hx, hb, -, -, hown, hts, -, hin, hK, hN, hX, hA, htb⟩ := id F
  have hd := htb _ (xfe_mem _ _ _ hf)
  obtain ⟨q0, hq0, hset⟩ := fl_pos S i j C _ hi hj
  refine va_zast hx hb hK hP hD hS q0 1 hq0 rfl (vp_in_int hx9 hN9) hd (fun H1 locs1 hP1 hD1 hS1 => ?_)
  rw [clamp_int hx9, (show vp_nar .boolean y = y by rcases hy9 with rfl | rfl <;> decide), hset] at hP1 hD1
  exact kk p e s m args below meth c H1 locs1 ls F hS1 hP1 hD1 hl
end XH2
end
section
section XH2
variable {l : Launch} {M : xM} {D : xD} {R : Room} {A : Nat → Prop} {Q : Array Value → State → Outcome → State → Prop} {mc ms pc pc' k n : Nat} {lv lv' : List (Nat × Value)} {st st' : List Value} {S S' : List va_W} {C : va_W} {a : Nat} {ce : va_E}
theorem Ex.aal (i j jx t0 : Nat) {N : Nat} {f : Nat → Option Nat} {x : Int32} {cn : String} (ht : (gTY D)[t0]? = some (D.2.2.1 t0, .object cn)) (hi : S[i]? = some C) (hj : C[j]? = some (a, .inl (D.2.2.1 t0, N, .inr (.inr (.inr (.inr f)))))) (hf : xfe M.2.2.2.2.2 pc = some .aaload) (hx9 : x.toInt = jx) (hN9 : jx < N) (kk : Ex l M D R A Q mc ms (pc + 1) lv (va_rf (f jx) :: st) S k n) : Ex l M D R A Q mc ms pc lv (.int x :: .ref a :: st) S k n := by
  intro p e s m args below meth c H locs ls F hS hP hD hl
  obtain ⟨ho, hx, hb, -, -, hown, hts, -, hin, hK, hN, hX, hA, htb⟩ := id F
  have hd := htb _ (xfe_mem _ _ _ hf)
  obtain ⟨q0, hq0, -⟩ := fl_pos S i j C _ hi hj
  refine va_aldq hx hb hK hP q0 t0 hq0 ht (vp_in_int hx9 hN9) hd ?_
  rw [clamp_int hx9]
  exact kk p e s m args below meth c H locs ls F hS hP hD hl
theorem Ex.aas (i j jx t0 iv jv ci : Nat) {N v : Nat} {f : Nat → Option Nat} {x : Int32} {r : vw_C} {Cv : va_W} {vs : List Value} (hc : gCL[ci]? = some r) (ht : (gTY D)[t0]? = some (D.2.2.1 t0, .object r.1)) (hi : S[i]? = some C) (hj : C[j]? = some (a, .inl (D.2.2.1 t0, N, .inr (.inr (.inr (.inr f)))))) (hiv : S[iv]? = some Cv) (hjv : Cv[jv]? = some (v, .inr (ci, vs))) (hf : xfe M.2.2.2.2.2 pc = some .aastore) (hx9 : x.toInt = jx) (hN9 : jx < N)
    (kk : Ex l M D R A Q mc ms (pc + 1) lv st (S.set i (C.set j (a, .inl (D.2.2.1 t0, N, .inr (.inr (.inr (.inr (va_up f jx (some v))))))))) k n) : Ex l M D R A Q mc ms pc lv (.ref v :: .int x :: .ref a :: st) S k n := by
  intro p e s m args below meth c H locs ls F hS hP hD hl
  obtain ⟨ho, hx, hb, -, -, hown, hts, -, hin, hK, hN, hX, hA, htb⟩ := id F
  have hd := htb _ (xfe_mem _ _ _ hf)
  obtain ⟨q0, hq0, hset⟩ := fl_pos S i j C _ hi hj
  obtain ⟨qv, hqv, -⟩ := fl_pos S iv jv Cv _ hiv hjv
  refine va_astq hx hb hK hP hD hS q0 t0 qv ci hq0 ht hqv hc (vp_in_int hx9 hN9) hd (fun H1 locs1 hP1 hD1 hS1 => ?_)
  rw [clamp_int hx9, hset] at hP1 hD1
  exact kk p e s m args below meth c H1 locs1 ls F hS1 hP1 hD1 hl
theorem Ex.alen (i j t0 : Nat) {x : vp_A} {ty : FieldType} (ht : (gTY D)[t0]? = some (D.2.2.1 t0, ty)) (hi : S[i]? = some C) (hj : C[j]? = some (a, .inl (D.2.2.1 t0, x))) (hf : xfe M.2.2.2.2.2 pc = some .arraylength) (kk : Ex l M D R A Q mc ms (pc + 1) lv (.int (nI x.1) :: st) S k n) : Ex l M D R A Q mc ms pc lv (.ref a :: st) S k n := by
  intro p e s m args below meth c H locs ls F hS hP hD hl
  obtain ⟨ho, hx, hb, -, -, hown, hts, -, hin, hK, hN, hX, hA, htb⟩ := id F
  have hd := htb _ (xfe_mem _ _ _ hf)
  obtain ⟨q0, hq0, -⟩ := fl_pos S i j C _ hi hj
  exact va_alen hx hb hK hP q0 t0 hq0 ht rfl hd (kk p e s m args below meth c H locs ls F hS hP hD hl)
theorem Ex.idiv {x y : Int32} (hf : xfe M.2.2.2.2.2 pc = some .idiv) (hne : ¬ y = 0) (kk : Ex l M D R A Q mc ms (pc + 1) lv (.int (x / y) :: st) S k n) : Ex l M D R A Q mc ms pc lv (.int y :: .int x :: st) S k n := by
  intro p e s m args below meth c H locs ls F hS hP hD hl
  obtain ⟨ho, hx, hb, -, -, hown, hts, -, hin, hK, hN, hX, hA, htb⟩ := id F
  have hd := htb _ (xfe_mem _ _ _ hf)
  exact lv_idiv hx hb hd hne (kk p e s m args below meth c H locs ls F hS hP hD hl)
theorem Ex.irem {x y : Int32} (hf : xfe M.2.2.2.2.2 pc = some .irem) (hne : ¬ y = 0) (kk : Ex l M D R A Q mc ms (pc + 1) lv (.int (x - x / y * y) :: st) S k n) : Ex l M D R A Q mc ms pc lv (.int y :: .int x :: st) S k n := by
  intro p e s m args below meth c H locs ls F hS hP hD hl
  obtain ⟨ho, hx, hb, -, -, hown, hts, -, hin, hK, hN, hX, hA, htb⟩ := id F
  have hd := htb _ (xfe_mem _ _ _ hf)
  exact lv_irem hx hb hd hne (kk p e s m args below meth c H locs ls F hS hP hD hl)
theorem Ex.ldiv {x y : Int64} (hf : xfe M.2.2.2.2.2 pc = some .ldiv) (hne : ¬ y = 0) (kk : Ex l M D R A Q mc ms (pc + 1) lv (.long (x / y) :: st) S k n) : Ex l M D R A Q mc ms pc lv (.long y :: .long x :: st) S k n := by
  intro p e s m args below meth c H locs ls F hS hP hD hl
  obtain ⟨ho, hx, hb, -, -, hown, hts, -, hin, hK, hN, hX, hA, htb⟩ := id F
  have hd := htb _ (xfe_mem _ _ _ hf)
  exact lv_ldiv hx hb hd hne (kk p e s m args below meth c H locs ls F hS hP hD hl)
theorem Ex.lrem {x y : Int64} (hf : xfe M.2.2.2.2.2 pc = some .lrem) (hne : ¬ y = 0) (kk : Ex l M D R A Q mc ms (pc + 1) lv (.long (x - x / y * y) :: st) S k n) : Ex l M D R A Q mc ms pc lv (.long y :: .long x :: st) S k n := by
  intro p e s m args below meth c H locs ls F hS hP hD hl
  obtain ⟨ho, hx, hb, -, -, hown, hts, -, hin, hK, hN, hX, hA, htb⟩ := id F
  have hd := htb _ (xfe_mem _ _ _ hf)
  exact lv_lrem hx hb hd hne (kk p e s m args below meth c H locs ls F hS hP hD hl)
theorem Ex.nnR {off : Int}{x : Nat} (hf : xfe M.2.2.2.2.2 pc = some (.ifnonnull off)) {t : Nat} (ht : (pc : Int) + off = (t : Int)) (kk : Ex l M D R A Q mc ms t lv st S k n) : Ex l M D R A Q mc ms pc lv (.ref x :: st) S k n := by
  intro p e s m args below meth c H locs ls F hS hP hD hl
  obtain ⟨ho, hx, hb, -, -, hown, hts, -, hin, hK, hN, hX, hA, htb⟩ := id F
  have hd := htb _ (xfe_mem _ _ _ hf)
  exact lv_ifnonnull hx hb hd ht (kk p e s m args below meth c H locs ls F hS hP hD hl)
theorem Ex.nuR {off : Int}{x : Nat} (hf : xfe M.2.2.2.2.2 pc = some (.ifnull off)) (kk : Ex l M D R A Q mc ms (pc + 3) lv st S k n) : Ex l M D R A Q mc ms pc lv (.ref x :: st) S k n := by
  intro p e s m args below meth c H locs ls F hS hP hD hl
  obtain ⟨ho, hx, hb, -, -, hown, hts, -, hin, hK, hN, hX, hA, htb⟩ := id F
  have hd := htb _ (xfe_mem _ _ _ hf)
  exact lv_ifnull hx hb hd (kk p e s m args below meth c H locs ls F hS hP hD hl)
theorem Ex.nuN {off : Int} (hf : xfe M.2.2.2.2.2 pc = some (.ifnull off)) {t : Nat} (ht : (pc : Int) + off = (t : Int)) (kk : Ex l M D R A Q mc ms t lv st S k n) : Ex l M D R A Q mc ms pc lv (.null :: st) S k n := by
  intro p e s m args below meth c H locs ls F hS hP hD hl
  obtain ⟨ho, hx, hb, -, -, hown, hts, -, hin, hK, hN, hX, hA, htb⟩ := id F
  have hd := htb _ (xfe_mem _ _ _ hf)
  exact lv_ifnullN hx hb hd ht (kk p e s m args below meth c H locs ls F hS hP hD hl)
theorem Ex.nnN {off : Int} (hf : xfe M.2.2.2.2.2 pc = some (.ifnonnull off)) (kk : Ex l M D R A Q mc ms (pc + 3) lv st S k n) : Ex l M D R A Q mc ms pc lv (.null :: st) S k n := by
  intro p e s m args below meth c H locs ls F hS hP hD hl
  obtain ⟨ho, hx, hb, -, -, hown, hts, -, hin, hK, hN, hX, hA, htb⟩ := id F
  have hd := htb _ (xfe_mem _ _ _ hf)
  exact lv_ifnonnullN hx hb hd (kk p e s m args below meth c H locs ls F hS hP hD hl)
end XH2
end
section
/-! OWN FRAME 6: constants, new cells, ends, switches -/
def xf3 {α : Type} : List (Nat × Nat × α) → Nat → Nat → Option α
  | [], _, _ => none
  | q :: r, a, b => match Nat.beq q.1 a && Nat.beq q.2.1 b with
    | true => some q.2.2
    | false => xf3 r a b
theorem xf3_mem {α : Type} : ∀ (t : List (Nat × Nat × α)) (a b : Nat) (r : α), xf3 t a b = some r → (a, b, r) ∈ t
  | [], _, _, _, h => by cases h
  | q :: t, a, b, r, h => by
    unfold xf3 at h
    split at h
    · rename_i hq
      cases h
      rw [Bool.and_eq_true] at hq
      have h1 := Nat.eq_of_beq_eq_true hq.1
      have h2 := Nat.eq_of_beq_eq_true hq.2
      subst h1; subst h2
      exact List.mem_cons_self
    · exact List.mem_cons_of_mem _ (xf3_mem t a b r h)
theorem gCI_b : gCI.all (fun q => decide (Cond.constant (gON.getD q.1 "") q.2.1 q.2.2 ∈ gTB)) = true := by decide +kernel
theorem gCJ_b : gCJ.all (fun q => decide (Cond.constantLong (gON.getD q.1 "") q.2.1 q.2.2 ∈ gTB)) = true := by decide +kernel
theorem gKL_b : gKL.all (fun q => decide (Cond.classLink (gON.getD q.1 "") q.2.1 (gON.getD q.2.2 "") ∈ gTB)) = true := by decide +kernel
theorem gCS_b : gCS.all (fun q => gST.any (fun z => decide (z.1 = gON.getD q.1 "") && Nat.beq z.2.1 q.2.1 && Nat.beq z.2.2.2 q.2.2)) = true := by decide +kernel
theorem gdf_b : ∀ ci, ci < 13 → ∀ j, j < (gCL.getD ci ("", fun _ => ("", "", "", false), 0)).2.2 → defaultValue (gty (gCL.getD ci ("", fun _ => ("", "", "", false), 0)) j) = vp_V (gdf ci) j := by decide +kernel
theorem gON_D {i : Nat} {o : String} (h : gON[i]? = some o) : gON.getD i "" = o := by rw [List.getD_eq_getElem?_getD, h]; rfl
def xck (M : xM) (pc : Nat) : Option Int32 := match xfe M.2.2.2.2.2 pc with
  | some (.ldc ix) => xf3 gCI M.1 ix
  | _ => none
def xcj (M : xM) (pc : Nat) : Option Int64 := match xfe M.2.2.2.2.2 pc with
  | some (.ldc2_w ix) => xf3 gCJ M.1 ix
  | _ => none
def xcs (M : xM) (pc : Nat) : Option Nat := match xfe M.2.2.2.2.2 pc with
  | some (.ldc ix) => xf3 gCS M.1 ix
  | _ => none
def xnw (M : xM) (pc : Nat) : Option Nat := match xfe M.2.2.2.2.2 pc with
  | some (.new ix) => xf3 gKL M.1 ix
  | _ => none
def xan (M : xM) (pc : Nat) : Option Nat := match xfe M.2.2.2.2.2 pc with
  | some (.anewarray ix) => xf3 gKL M.1 ix
  | _ => none
theorem gAC : Cond.arrayClass (newarray.typeOf .int) ∈ gTB ∧ Cond.arrayClass (newarray.typeOf .boolean) ∈ gTB ∧ Cond.arrayClass (newarray.typeOf .long) ∈ gTB := by decide +kernel
section XN
variable {l : Launch} {M : xM} {D : xD} {R : Room} {A : Nat → Prop} {Q : Array Value → State → Outcome → State → Prop} {mc ms pc pc' k n : Nat} {lv lv' : List (Nat × Value)} {st st' : List Value} {S S' : List va_W} {C : va_W} {a : Nat} {ce : va_E}
theorem Ex.ldc {v : Int32} (hg : xck M pc = some v) (kk : Ex l M D R A Q mc ms (pc + 2) lv (.int v :: st) S k n) : Ex l M D R A Q mc ms pc lv st S k n := by
  intro p e s m args below meth c H locs ls F hS hP hD hl
  obtain ⟨ho, hx, hb, -, -, hown, hts, -, hin, hK, hN, hX, hA, htb⟩ := id F
  unfold xck at hg
  split at hg
  · rename_i ix hf
    have hd := htb _ (xfe_mem _ _ _ hf)
    have h1 := List.all_eq_true.mp gCI_b _ (xf3_mem _ _ _ _ hg)
    simp only [decide_eq_true_eq, gON_D ho] at h1
    exact lv_ldc hx hb hown (hts _ h1) hd (kk p e s m args below meth c H locs ls F hS hP hD hl)
  · cases hg
theorem Ex.ldc2 {v : Int64} (hg : xcj M pc = some v) (kk : Ex l M D R A Q mc ms (pc + 3) lv (.long v :: st) S k n) : Ex l M D R A Q mc ms pc lv st S k n := by
  intro p e s m args below meth c H locs ls F hS hP hD hl
  obtain ⟨ho, hx, hb, -, -, hown, hts, -, hin, hK, hN, hX, hA, htb⟩ := id F
  unfold xcj at hg
  split at hg
  · rename_i ix hf
    have hd := htb _ (xfe_mem _ _ _ hf)
    have h1 := List.all_eq_true.mp gCJ_b _ (xf3_mem _ _ _ _ hg)
    simp only [decide_eq_true_eq, gON_D ho] at h1
    exact lv_ldc2 hx hb hown (hts _ h1) hd (kk p e s m args below meth c H locs ls F hS hP hD hl)
  · cases hg
theorem Ex.ldcS {t : Nat} (hg : xcs M pc = some t) (kk : Ex l M D R A Q mc ms (pc + 2) lv (.ref (D.2.2.2.1 t) :: st) S k n) : Ex l M D R A Q mc ms pc lv st S k n := by
  intro p e s m args below meth c H locs ls F hS hP hD hl
  obtain ⟨ho, hx, hb, -, -, hown, hts, -, hin, hK, hN, hX, hA, htb⟩ := id F
  unfold xcs at hg
  split at hg
  · rename_i ix hf
    have hd := htb _ (xfe_mem _ _ _ hf)
    have h1 := List.all_eq_true.mp gCS_b _ (xf3_mem _ _ _ _ hg)
    obtain ⟨z, hz, h2⟩ := List.any_eq_true.mp h1
    simp only [Bool.and_eq_true, decide_eq_true_eq, gON_D ho] at h2
    obtain ⟨⟨e1, e2⟩, e3⟩ := h2
    have hR := hN.2.2 z hz
    have e2 := Nat.eq_of_beq_eq_true e2
    have e3 := Nat.eq_of_beq_eq_true e3
    rw [e1, e2, e3] at hR
    exact va_ldcS hx hb hown hR hd (kk p e s m args below meth c H locs ls F hS hP hD hl)
  · cases hg
theorem Ex.new {ci N : Nat} (hg : xnw M pc = some ci) (hc : (gCL[ci]?).map (fun r => r.2.2) = some N) (h1 : k + 1 ≤ R.cells) (h2 : n + N ≤ R.slots) (kk : ∀ q : Nat, Ex l M D R A Q mc ms (pc + 3) lv (.ref q :: st) (S ++ [[(q, .inr (ci, gdf ci))]]) (k + 1) (n + N)) : Ex l M D R A Q mc ms pc lv st S k n := by
  intro p e s m args below meth c H locs ls F hS hP hD hl
  obtain ⟨ho, hx, hb, -, -, hown, hts, -, hin, hK, hN, hX, hA, htb⟩ := id F
  unfold xnw at hg
  split at hg
  · rename_i ix hf
    have hd := htb _ (xfe_mem _ _ _ hf)
    have h3 := List.all_eq_true.mp gKL_b _ (xf3_mem _ _ _ _ hg)
    cases hr : gCL[ci]? with
    | none => rw [hr] at hc; cases hc
    | some r =>
      rw [hr] at hc
      simp only [Option.map_some, Option.some.injEq] at hc
      subst hc
      have hok := gCL_ok r (List.mem_of_getElem? hr)
      simp only [decide_eq_true_eq, gON_D ho, gON_D (gNM_at hr)] at h3
      have hlt : ci < 13 := (List.getElem?_eq_some_iff.mp hr).1
      have hdf := gdf_b ci hlt
      rw [List.getD_eq_getElem?_getD, hr] at hdf
      refine va_new hx hb hts hok.1 (gty r) hok.2.1 hown (hts _ h3) (hts _ hok.2.2.2.1) (hts _ hok.2.2.2.2) hK hP hD hS hA hr hdf h1 h2 hd (fun q H1 hP1 hD1 hS1 => ?_)
      exact kk q p e s m args below meth c H1 locs ls F hS1 (by simpa using hP1) (by simpa using hD1) hl
  · cases hg
theorem Ex.newi {x : Int32} {N : Nat} (hf : xfe M.2.2.2.2.2 pc = some (.newarray .int)) (hx9 : x.toInt = N) (hN9 : N ≤ 1000000) (h1 : k + 1 ≤ R.cells) (h2 : n + N ≤ R.slots) (kk : ∀ q : Nat, Ex l M D R A Q mc ms (pc + 2) lv (.ref q :: st) (S ++ [[(q, .inl (D.2.2.1 0, N, .inl (fun _ => 0)))]]) (k + 1) (n + N)) : Ex l M D R A Q mc ms pc lv (.int x :: st) S k n := by
  intro p e s m args below meth c H locs ls F hS hP hD hl
  obtain ⟨ho, hx, hb, -, -, hown, hts, -, hin, hK, hN, hX, hA, htb⟩ := id F
  have hd := htb _ (xfe_mem _ _ _ hf)
  have h3 : Cond.arrayClass (newarray.typeOf .int) ∈ gTB := gAC.1
  refine va_newa (atype := .int) hx hb (hts _ h3) rfl hK hP hD hS hA (N' := N) (a0 := (N, .inl (fun _ => 0))) (fun _ => rfl) (by rw [Int32.lt_iff_toInt_lt, hx9]; simp) (clamp_int hx9) (by show N * 4 ≤ 536870912; omega) h1 h2 hd (fun q cA H1 hK1 hP1 hD1 hS1 => ?_)
  have e1 : s.vm.findClass ("[" ++ (FieldType.int).toString) = some cA := (hK1.2 6 _ rfl).2
  have e2 : s.vm.findClass ("[" ++ (FieldType.int).toString) = some (D.2.2.1 0) := (hK.2 0 _ rfl).2
  have e3 : cA = D.2.2.1 0 := Option.some.inj (e1.symm.trans e2)
  subst e3
  exact kk q p e s m args below meth c H1 locs ls F hS1 (by simpa using hP1) (by simpa using hD1) hl
theorem Ex.newz {x : Int32} {N : Nat} (hf : xfe M.2.2.2.2.2 pc = some (.newarray .boolean)) (hx9 : x.toInt = N) (hN9 : N ≤ 1000000) (h1 : k + 1 ≤ R.cells) (h2 : n + N ≤ R.slots) (kk : ∀ q : Nat, Ex l M D R A Q mc ms (pc + 2) lv (.ref q :: st) (S ++ [[(q, .inl (D.2.2.1 1, N, .inl (fun _ => 0)))]]) (k + 1) (n + N)) : Ex l M D R A Q mc ms pc lv (.int x :: st) S k n := by
  intro p e s m args below meth c H locs ls F hS hP hD hl
  obtain ⟨ho, hx, hb, -, -, hown, hts, -, hin, hK, hN, hX, hA, htb⟩ := id F
  have hd := htb _ (xfe_mem _ _ _ hf)
  have h3 : Cond.arrayClass (newarray.typeOf .boolean) ∈ gTB := gAC.2.1
  refine va_newa (atype := .boolean) hx hb (hts _ h3) rfl hK hP hD hS hA (N' := N) (a0 := (N, .inl (fun _ => 0))) (fun _ => rfl) (by rw [Int32.lt_iff_toInt_lt, hx9]; simp) (clamp_int hx9) (by show N * 1 ≤ 536870912; omega) h1 h2 hd (fun q cA H1 hK1 hP1 hD1 hS1 => ?_)
  have e1 : s.vm.findClass ("[" ++ (FieldType.boolean).toString) = some cA := (hK1.2 6 _ rfl).2
  have e2 : s.vm.findClass ("[" ++ (FieldType.boolean).toString) = some (D.2.2.1 1) := (hK.2 1 _ rfl).2
  have e3 : cA = D.2.2.1 1 := Option.some.inj (e1.symm.trans e2)
  subst e3
  exact kk q p e s m args below meth c H1 locs ls F hS1 (by simpa using hP1) (by simpa using hD1) hl
theorem Ex.newl {x : Int32} {N : Nat} (hf : xfe M.2.2.2.2.2 pc = some (.newarray .long)) (hx9 : x.toInt = N) (hN9 : N ≤ 1000000) (h1 : k + 1 ≤ R.cells) (h2 : n + N ≤ R.slots) (kk : ∀ q : Nat, Ex l M D R A Q mc ms (pc + 2) lv (.ref q :: st) (S ++ [[(q, .inl (D.2.2.1 2, N, .inr (.inl (fun _ => 0))))]]) (k + 1) (n + N)) : Ex l M D R A Q mc ms pc lv (.int x :: st) S k n := by
  intro p e s m args below meth c H locs ls F hS hP hD hl
  obtain ⟨ho, hx, hb, -, -, hown, hts, -, hin, hK, hN, hX, hA, htb⟩ := id F
  have hd := htb _ (xfe_mem _ _ _ hf)
  have h3 : Cond.arrayClass (newarray.typeOf .long) ∈ gTB := gAC.2.2
  refine va_newa (atype := .long) hx hb (hts _ h3) rfl hK hP hD hS hA (N' := N) (a0 := (N, .inr (.inl (fun _ => 0)))) (fun _ => rfl) (by rw [Int32.lt_iff_toInt_lt, hx9]; simp) (clamp_int hx9) (by show N * 8 ≤ 536870912; omega) h1 h2 hd (fun q cA H1 hK1 hP1 hD1 hS1 => ?_)
  have e1 : s.vm.findClass ("[" ++ (FieldType.long).toString) = some cA := (hK1.2 6 _ rfl).2
  have e2 : s.vm.findClass ("[" ++ (FieldType.long).toString) = some (D.2.2.1 2) := (hK.2 2 _ rfl).2
  have e3 : cA = D.2.2.1 2 := Option.some.inj (e1.symm.trans e2)
  subst e3
  exact kk q p e s m args below meth c H1 locs ls F hS1 (by simpa using hP1) (by simpa using hD1) hl
theorem Ex.newa {x : Int32} {N ci t0 : Nat} {cn : String} (hg : xan M pc = some ci) (hcn : gON[ci]? = some cn) (hao : cn ∈ gAO) (hc : ci < 13) (ht : (gTY D)[t0]? = some (D.2.2.1 t0, .object cn)) (hx9 : x.toInt = N) (hN9 : N ≤ 1000000) (h1 : k + 1 ≤ R.cells) (h2 : n + N ≤ R.slots) (kk : ∀ q : Nat, Ex l M D R A Q mc ms (pc + 3) lv (.ref q :: st) (S ++ [[(q, .inl (D.2.2.1 t0, N, .inr (.inr (.inr (.inr (fun _ => none))))))]]) (k + 1) (n + N)) : Ex l M D R A Q mc ms pc lv (.int x :: st) S k n := by
  intro p e s m args below meth c H locs ls F hS hP hD hl
  obtain ⟨ho, hx, hb, -, -, hown, hts, -, hin, hK, hN, hX, hA, htb⟩ := id F
  unfold xan at hg
  split at hg
  · rename_i ix hf
    have hd := htb _ (xfe_mem _ _ _ hf)
    have h3 := List.all_eq_true.mp gKL_b _ (xf3_mem _ _ _ _ hg)
    simp only [decide_eq_true_eq, gON_D ho, gON_D hcn] at h3
    refine va_newq hx hb hown (hts _ h3) (hN.2.1.1 _ hao) hK hP hD hS hA (N' := N) (by rw [Int32.lt_iff_toInt_lt, hx9]; simp) (clamp_int hx9) (by omega) h1 h2 hd (fun q cA H1 hK1 hP1 hD1 hS1 => ?_)
    obtain ⟨_, _, -, -, -, e1⟩ := (hK1.2 6 _ rfl).2
    obtain ⟨_, _, -, -, -, e2⟩ := (hK.2 t0 _ ht).2
    have e3 : cA = D.2.2.1 t0 := Option.some.inj (e1.symm.trans e2)
    subst e3
    exact kk q p e s m args below meth c H1 locs ls F hS1 (by simpa using hP1) (by simpa using hD1) hl
  · cases hg
end XN
end
section
/-! OWN FRAME 7: ends and switches -/
section XN
variable {l : Launch} {M : xM} {D : xD} {R : Room} {A : Nat → Prop} {Q : Array Value → State → Outcome → State → Prop} {mc ms pc pc' k n : Nat} {lv lv' : List (Nat × Value)} {st st' : List Value} {S S' : List va_W} {C : va_W} {a : Nat} {ce : va_E}
theorem Ex.iret {v : Int32} {Q0 : Option Value → List va_W → Prop} (hf : xfe M.2.2.2.2.2 pc = some .ireturn) (hr9 : M.2.2.2.2.1 = some .int) (hk : k ≤ mc) (hn : n ≤ ms) (hS9 : S.flatten = S'.flatten) (hq : Q0 (some (.int v)) S') : Ex l M D R A (xQ D A Q0) mc ms pc lv [.int v] S k n := by
  intro p e s m args below meth c H locs ls F hS hP hD hl
  obtain ⟨ho, hx, hb, -, hr, hown, hts, hlocks, hin, hK, hN, hX, hA, htb⟩ := id F
  have hd := htb _ (xfe_mem _ _ _ hf)
  refine W.widen hk hn ?_
  rw [hS9] at hP hD
  exact W.x (W.iret hx hb (hr.trans hr9) (fun t ht hW => ⟨⟨_, S', rfl, hq, by rw [ht]; exact hP, hD⟩, hS.F ht⟩) hS.2.2 hd)
theorem Ex.lret {v : Int64} {Q0 : Option Value → List va_W → Prop} (hf : xfe M.2.2.2.2.2 pc = some .lreturn) (hr9 : M.2.2.2.2.1 = some .long) (hk : k ≤ mc) (hn : n ≤ ms) (hS9 : S.flatten = S'.flatten) (hq : Q0 (some (.long v)) S') : Ex l M D R A (xQ D A Q0) mc ms pc lv [.long v] S k n := by
  intro p e s m args below meth c H locs ls F hS hP hD hl
  obtain ⟨ho, hx, hb, -, hr, hown, hts, hlocks, hin, hK, hN, hX, hA, htb⟩ := id F
  have hd := htb _ (xfe_mem _ _ _ hf)
  refine W.widen hk hn ?_
  rw [hS9] at hP hD
  exact W.x (W.lret hx hb (hr.trans hr9) (fun t ht hW => ⟨⟨_, S', rfl, hq, by rw [ht]; exact hP, hD⟩, hS.F ht⟩) hS.2.2 hd)
theorem Ex.vret {Q0 : Option Value → List va_W → Prop} (hf : xfe M.2.2.2.2.2 pc = some .return_) (hr9 : M.2.2.2.2.1 = none) (hk : k ≤ mc) (hn : n ≤ ms) (hS9 : S.flatten = S'.flatten) (hq : Q0 (none) S') : Ex l M D R A (xQ D A Q0) mc ms pc lv [] S k n := by
  intro p e s m args below meth c H locs ls F hS hP hD hl
  obtain ⟨ho, hx, hb, -, hr, hown, hts, hlocks, hin, hK, hN, hX, hA, htb⟩ := id F
  have hd := htb _ (xfe_mem _ _ _ hf)
  refine W.widen hk hn ?_
  rw [hS9] at hP hD
  exact W.x (W.vret hx hb (hr.trans hr9) (fun t ht hW => ⟨⟨_, S', rfl, hq, by rw [ht]; exact hP, hD⟩, hS.F ht⟩) hS.2.2 hd)
theorem Ex.zret {v : Int32} {Q0 : Option Value → List va_W → Prop} (hf : xfe M.2.2.2.2.2 pc = some .ireturn) (hr9 : M.2.2.2.2.1 = some .boolean) (hv : v = 0 ∨ v = 1) (hk : k ≤ mc) (hn : n ≤ ms) (hS9 : S.flatten = S'.flatten) (hq : Q0 (some (.int v)) S') : Ex l M D R A (xQ D A Q0) mc ms pc lv [.int v] S k n := by
  intro p e s m args below meth c H locs ls F hS hP hD hl
  obtain ⟨ho, hx, hb, -, hr, hown, hts, hlocks, hin, hK, hN, hX, hA, htb⟩ := id F
  have hd := htb _ (xfe_mem _ _ _ hf)
  refine W.widen hk hn ?_
  rw [hS9] at hP hD
  exact W.x (W.zret hx hb (hr.trans hr9) (by rcases hv with rfl | rfl <;> decide) (fun t ht hW => ⟨⟨_, S', rfl, hq, by rw [ht]; exact hP, hD⟩, hS.F ht⟩) hS.2.2 hd)
theorem Ex.aret {v : Value} {cn : String} {Q0 : Option Value → List va_W → Prop} (hf : xfe M.2.2.2.2.2 pc = some .areturn) (hr9 : M.2.2.2.2.1 = some (.object cn)) (hv : v = .null ∨ ∃ a, v = .ref a) (hk : k ≤ mc) (hn : n ≤ ms) (hS9 : S.flatten = S'.flatten) (hq : Q0 (some v) S') : Ex l M D R A (xQ D A Q0) mc ms pc lv [v] S k n := by
  intro p e s m args below meth c H locs ls F hS hP hD hl
  obtain ⟨ho, hx, hb, -, hr, hown, hts, hlocks, hin, hK, hN, hX, hA, htb⟩ := id F
  have hd := htb _ (xfe_mem _ _ _ hf)
  refine W.widen hk hn ?_
  rw [hS9] at hP hD
  exact W.x (W.aret hx hb (hr.trans hr9) (Or.inl ⟨_, rfl⟩) hv (fun t ht hW => ⟨⟨_, S', rfl, hq, by rw [ht]; exact hP, hD⟩, hS.F ht⟩) hS.2.2 hd)
theorem Ex.swO {dflt lo hi : Int} {offs : Array Int} {len t : Nat} {x : Int32} (hd : decode M.2.2.1 pc = .ok (.tableswitch dflt lo hi offs, len)) (h : x.toInt < lo ∨ hi < x.toInt) (ht : (pc : Int) + dflt = (t : Int)) (kk : Ex l M D R A Q mc ms t lv st S k n) : Ex l M D R A Q mc ms pc lv (.int x :: st) S k n := by
  intro p e s m args below meth c H locs ls F hS hP hD hl
  obtain ⟨ho, hx, hb, -, -, hown, hts, -, hin, hK, hN, hX, hA, htb⟩ := id F
  exact lv_tableOut hx hb hd h ht (kk p e s m args below meth c H locs ls F hS hP hD hl)
theorem Ex.swI {dflt lo hi off : Int} {offs : Array Int} {len t : Nat} {x : Int32} (hd : decode M.2.2.1 pc = .ok (.tableswitch dflt lo hi offs, len)) (h1 : ¬ x.toInt < lo) (h2 : ¬ hi < x.toInt) (ho : offs[(x.toInt - lo).toNat]? = some off) (ht : (pc : Int) + off = (t : Int)) (kk : Ex l M D R A Q mc ms t lv st S k n) : Ex l M D R A Q mc ms pc lv (.int x :: st) S k n := by
  intro p e s m args below meth c H locs ls F hS hP hD hl
  obtain ⟨hoo, hx, hb, -, -, hown, hts, -, hin, hK, hN, hX, hA, htb⟩ := id F
  exact lv_tableIn hx hb hd h1 h2 ho ht (kk p e s m args below meth c H locs ls F hS hP hD hl)
end XN
end
section
/-! OWN FRAME 8: calls -/
theorem va_P_iff {G : va_G} {cl : List vw_C} {ws : va_W} {H : Heap} : va_P G cl ws H ↔ ∀ q ∈ ws, va_at G cl q H :=
  ⟨fun h q hq => by obtain ⟨k, hk⟩ := List.mem_iff_getElem?.mp hq; exact h k q hk, fun h k q hk => h q (List.mem_of_getElem? hk)⟩
abbrev xne (p q : Nat × va_E) : Prop := p.1 ≠ q.1
theorem va_D_iff {A : Nat → Prop} {ws : va_W} : va_D A ws ↔ ws.Pairwise xne ∧ ∀ q ∈ ws, A q.1 := by
  constructor
  · intro h
    refine ⟨List.pairwise_iff_getElem.mpr fun i j hi hj hij he => ?_, fun q hq => by obtain ⟨k, hk⟩ := List.mem_iff_getElem?.mp hq; exact h.2 k q hk⟩
    have := h.1 i j ws[i] ws[j] (List.getElem?_eq_getElem hi) (List.getElem?_eq_getElem hj) he
    omega
  · intro h
    refine ⟨fun i j p q hp hq he => ?_, fun k q hk => h.2 q (List.mem_of_getElem? hk)⟩
    obtain ⟨hi, e1⟩ := List.getElem?_eq_some_iff.mp hp
    obtain ⟨hj, e2⟩ := List.getElem?_eq_some_iff.mp hq
    have hw := List.pairwise_iff_getElem.mp h.1
    rcases Nat.lt_trichotomy i j with hij | hij | hij
    · exact absurd (by rw [e1, e2]; exact he) (hw i j hi hj hij)
    · exact hij
    · exact absurd (by rw [e1, e2]; exact he.symm) (hw j i hj hi hij)
/-- segments apart -/
def sg (S : List va_W) : Prop := (∀ C ∈ S, C.Pairwise xne) ∧ ∀ i j : Nat, i < j → ∀ Ci Cj : va_W, S[i]? = some Ci → S[j]? = some Cj → ∀ x ∈ Ci, ∀ y ∈ Cj, x.1 ≠ y.1
theorem sg_iff {S : List va_W} : S.flatten.Pairwise xne ↔ sg S := by
  rw [List.pairwise_flatten]
  constructor
  · rintro ⟨h1, h2⟩
    refine ⟨h1, fun i j hij Ci Cj hi hj x hx y hy => ?_⟩
    obtain ⟨hi', rfl⟩ := List.getElem?_eq_some_iff.mp hi
    obtain ⟨hj', rfl⟩ := List.getElem?_eq_some_iff.mp hj
    exact List.pairwise_iff_getElem.mp h2 i j hi' hj' hij x hx y hy
  · rintro ⟨h1, h2⟩
    refine ⟨h1, List.pairwise_iff_getElem.mpr fun i j hi hj hij x hx y hy => ?_⟩
    exact h2 i j hij _ _ (List.getElem?_eq_getElem hi) (List.getElem?_eq_getElem hj) x hx y hy
theorem sg.ne {S : List va_W} (h : sg S) {i j : Nat} {Ci Cj : va_W} (hi : S[i]? = some Ci) (hj : S[j]? = some Cj) (hij : i ≠ j) {x y : Nat × va_E} (hx : x ∈ Ci) (hy : y ∈ Cj) : x.1 ≠ y.1 := by
  rcases Nat.lt_or_gt_of_ne hij with q | q
  · exact h.2 i j q Ci Cj hi hj x hx y hy
  · exact fun e => h.2 j i q Cj Ci hj hi y hy x hx e.symm
/-- Sc are the segments of S at the places is -/
def pk (S : List va_W) (is : List Nat) (Sc : List va_W) : Prop := is.map (fun i => S[i]?) = Sc.map some
theorem pk.at {S Sc : List va_W} {is : List Nat} (h : pk S is Sc) {k : Nat} {C : va_W} (hk : Sc[k]? = some C) : ∃ i, is[k]? = some i ∧ S[i]? = some C := by
  have h1 : (is.map (fun i => S[i]?))[k]? = some (some C) := by rw [show is.map (fun i => S[i]?) = Sc.map some from h, List.getElem?_map, hk]; rfl
  rw [List.getElem?_map] at h1
  cases hi : is[k]? with
  | none => rw [hi] at h1; cases h1
  | some i => rw [hi] at h1; exact ⟨i, rfl, Option.some.inj h1⟩
theorem pk.mem {S Sc : List va_W} {is : List Nat} (h : pk S is Sc) {x : Nat × va_E} (hx : x ∈ Sc.flatten) : ∃ (i : Nat) (C : va_W), i ∈ is ∧ S[i]? = some C ∧ x ∈ C := by
  obtain ⟨C, hC, hx⟩ := List.mem_flatten.mp hx
  obtain ⟨k, hk⟩ := List.mem_iff_getElem?.mp hC
  obtain ⟨i, h1, h2⟩ := h.at hk
  exact ⟨i, C, List.mem_of_getElem? h1, h2, hx⟩
theorem pk.sub {S Sc : List va_W} {is : List Nat} (h : pk S is Sc) {x : Nat × va_E} (hx : x ∈ Sc.flatten) : x ∈ S.flatten := by
  obtain ⟨i, C, -, h2, h3⟩ := h.mem hx
  exact List.mem_flatten.mpr ⟨C, List.mem_of_getElem? h2, h3⟩
theorem pk.sg {S Sc : List va_W} {is : List Nat} (h : pk S is Sc) (hn : va_nd is = true) (hs : sg S) : sg Sc := by
  refine ⟨fun C hC => ?_, fun i j hij Ci Cj hi hj x hx y hy => ?_⟩
  · obtain ⟨k, hk⟩ := List.mem_iff_getElem?.mp hC
    obtain ⟨i, h1, h2⟩ := h.at hk
    exact hs.1 C (List.mem_of_getElem? h2)
  · obtain ⟨i1, a1, a2⟩ := h.at hi
    obtain ⟨j1, b1, b2⟩ := h.at hj
    refine hs.ne a2 b2 (fun e => ?_) hx hy
    subst e
    have := va_nd_inj is hn i j i1 a1 b1
    omega
/-- behind a call: the rest and what came back -/
theorem seg_join {D : xD} {A : Nat → Prop} {S Sc Sr S1 : List va_W} {H H1 : Heap} {is rs : List Nat} (hP : va_P (xG D) gCL S.flatten H) (hD : va_D A S.flatten) (hc : pk S is Sc) (hr : pk S rs Sr) (hn : va_nd rs = true) (hdis : ∀ i ∈ rs, i ∉ is)
    (hk : ∀ q : Nat, q < H.size → ¬ va_A Sc.flatten H.size q → H1[q]? = H[q]?) (hF : ∀ q, va_A Sc.flatten H.size q → A q) (hP1 : va_P (xG D) gCL S1.flatten H1) (hD1 : va_D (va_A Sc.flatten H.size) S1.flatten) : va_P (xG D) gCL (Sr ++ S1).flatten H1 ∧ va_D A (Sr ++ S1).flatten := by
  rw [va_P_iff] at hP hP1 ⊢
  rw [va_D_iff] at hD hD1 ⊢
  have hs := sg_iff.mp hD.1
  have apart : ∀ x ∈ Sr.flatten, x.1 < H.size ∧ ¬ va_A Sc.flatten H.size x.1 := by
    intro x hx
    have hl := (hP x (hr.sub hx)).lt
    refine ⟨hl, fun h => ?_⟩
    rcases h with ⟨k2, e2, h⟩ | h
    · obtain ⟨i, Ci, i1, i2, i3⟩ := hr.mem hx
      obtain ⟨j, Cj, j1, j2, j3⟩ := hc.mem (List.mem_of_getElem? h)
      exact hs.ne i2 j2 (fun q => hdis i i1 (q ▸ j1)) i3 j3 rfl
    · omega
  rw [List.flatten_append]
  refine ⟨fun x hx => ?_, List.pairwise_append.mpr ⟨sg_iff.mpr (hr.sg hn hs), hD1.1, fun x hx y hy he => ?_⟩, fun x hx => ?_⟩
  · rcases List.mem_append.mp hx with h | h
    · exact (hP x (hr.sub h)).kept (hk x.1 (apart x h).1 (apart x h).2)
    · exact hP1 x h
  · exact (apart x hx).2 (by rw [show x.1 = y.1 from he]; exact hD1.2 y hy)
  · rcases List.mem_append.mp hx with h | h
    · exact hD.2 x (hr.sub h)
    · exact hF _ (hD1.2 x h)
end
section
/-! OWN FRAME 9: calls, the rows -/
section XC
variable {p : Program} {l : Launch} {e : Env} {R : Room} {s : State} {m : MethodId} {args : Array Value} {below : List Frame} {meth : Method} {c : Code} {H : Heap} {locs : List Loc} {cells slots : Nat} {Q : State → Prop}
theorem x_call {D : xD} {pc : Nat} {ls : Array Slot} {rest st0 : List Value} {a : Array Value} {A A1 : Nat → Prop} {H0 : Heap} {mc ms : Nat} {Q0 : Option Value → List va_W → Prop} (hr : va_Run p l e R s m args below meth c H locs cells slots mc ms (F0 m pc ls st0) rest (xQ D A1 Q0 a) A1) (hS : va_S A H0 H locs) (hA : ∀ q, A1 q → A q)
    (kk : ∀ (v : Option Value) (S1 : List va_W) (H1 : Heap) (locs1 : List Loc), Q0 v S1 → va_P (xG D) gCL S1.flatten H1 → va_D A1 S1.flatten → (∀ q : Nat, q < H.size → ¬ A1 q → H1[q]? = H[q]?) → va_S A H0 H1 locs1 → W p l e R s m args below meth c H1 locs1 (cells + mc) (slots + ms) Q (F0 m (pc + 3) ls (v.toList ++ rest))) : W p l e R s m args below meth c H locs cells slots Q (F0 m pc ls st0) := by
  intro T hT X
  obtain ⟨v, st₀, t, T', L, h0, X', hL, e1, e2, ⟨⟨v', S1, hv, hq, hP, hD⟩, hz, hk⟩, st⟩ := hr T hT X
  cases hv
  rw [h0] at hz hk
  obtain ⟨t2, a1, b1⟩ := kk v S1 T'.heap (locs ++ L) hq (by rw [e1]; exact hP) hD (fun q h1 h2 => by rw [e1]; exact hk q h1 h2)
    ⟨Nat.le_trans hS.1 (by rw [e1]; exact hz), fun q h1 h2 => by rw [e1, hk q (Nat.lt_of_lt_of_le h1 hS.1) (fun z => h2 (hA q z))]; exact hS.2.1 q h1 h2, fun q hq => by
      rcases List.mem_append.mp hq with h | h
      · exact hS.2.2 q h
      · exact hA _ (hL q h)⟩ T' rfl X'
  exact ⟨t2, st t2 a1, b1⟩
end XC
/-- what the tables say of a method: its code, its class -/
def LkM (M : xM) (np : Nat) : Prop := Cond.initialized M.2.1.cls ∈ gTB ∧ Cond.code M.2.1 M.2.2.1 M.2.2.2.1 M.2.2.2.2.1 ∈ gTB ∧ M.2.1.cls ≠ "java/lang/invoke/MethodHandle" ∧ M.2.1.cls ≠ "java/lang/invoke/VarHandle" ∧ (parseMethodDescriptor M.2.1.desc).map (fun d => d.parameters.length) = some np
def LkV (M : xM) (np : Nat) : Prop := LkM M np ∧ Cond.instanceMethod M.2.1 ∈ gTB ∧ Cond.selects M.2.1.cls M.2.1 M.2.1 ∈ gTB
def LkS (M : xM) (np : Nat) : Prop := LkM M np ∧ Cond.static M.2.1 ∈ gTB
def LkI (M : xM) (np : Nat) : Prop := LkM M np ∧ Cond.instanceMethod M.2.1 ∈ gTB ∧ M.2.1.name = "<init>" ∧ M.2.2.2.2.1 = none
/-- a call's own link -/
def Lk (own : String) (ix : Nat) (M : xM) : Prop := Cond.methodLink own ix M.2.1 ∈ gTB
def LkN (own : String) (ix : Nat) (M : xM) : Prop := Cond.methodLinkNest own ix M.2.1 "DrillArchive" ∈ gNW
theorem gTB_good {w : Cond} (h : w ∈ gTB) : (w.onTables && w.keeps) = true ∨ ∃ ty, w = .arrayClass ty := good_of_word (List.mem_filter.mp h).2
theorem LkM.good {M : xM} {np : Nat} (h : LkM M np) : GoodIn gTB (xW M) := by
  intro w hw
  rcases List.mem_cons.mp hw with rfl | hw
  · exact ⟨h.2.1, gTB_good h.2.1⟩
  · exact ⟨hw, gTB_good hw⟩
theorem xP_blind {D : xD} {av : List Value} {S : List va_W} {sz : Nat} : FrameBlind (xP D av S sz) := by
  intro a U g mk q
  obtain ⟨q0, q1, qP, qK, qD, qN, qX⟩ := q
  exact ⟨q0, q1, qP, va_K.moved (u := U) (U := U.calling g mk a) (Vm.Alike.refl U.vm) qK, qD, gNX.same (u := U) (U := U.calling g mk a) rfl qN, gSX.moved (u := U) (U := U.calling g mk a) (Vm.Alike.refl U.vm) qX⟩
section XC2
variable {l : Launch} {M : xM} {D : xD} {R : Room} {A : Nat → Prop} {Q : Array Value → State → Outcome → State → Prop} {mc ms pc k n : Nat} {lv : List (Nat × Value)} {S : List va_W}
/-- what a call needs of the caller's place -/
theorem x_pre {p : Program} {s : State} {m : MethodId} {args : Array Value} {meth : Method} {c : Code} {H : Heap} {locs : List Loc} {Sc : List va_W} {is : List Nat} {av : List Value} (F : Fx M D A p s m args meth c) (hS : va_S A s.heap H locs) (hP : va_P (xG D) gCL S.flatten H) (hD : va_D A S.flatten) (hc : pk S is Sc) (hn : va_nd is = true) :
    (∀ U : State, U.heap = H → s.WarmedH U.vm → xP D av Sc H.size av.toArray U) ∧ ∀ q, va_A Sc.flatten H.size q → A q := by
  obtain ⟨ho, hx, hb, -, -, hown, hts, -, hin, hK, hN, hX, hA, htb⟩ := id F
  have hsub : ∀ q, va_A Sc.flatten H.size q → A q := by
    intro q h
    rcases h with ⟨k2, e2, h⟩ | h
    · exact (va_D_iff.mp hD).2 _ (hc.sub (List.mem_of_getElem? h))
    · exact hA q (Nat.le_trans hS.1 h)
  refine ⟨fun U hU hW => ⟨rfl, by rw [hU], by rw [hU]; exact va_P_iff.mpr fun q hq => va_P_iff.mp hP q (hc.sub hq), va_K.moved hW.alike hK, va_D_iff.mpr ⟨sg_iff.mpr (hc.sg hn (sg_iff.mp (va_D_iff.mp hD).1)), fun _ _ => trivial⟩, hN.warm hW, ?_⟩, hsub⟩
  rw [hU]
  exact ((hX.kept (H1 := H) (fun a h1 h2 => hS.2.1 a h1 h2)).narrow hsub).moved hW.alike
theorem Ex.cv {Mc : xM} {Rc : Room} {b ix ic jc ci : Nat} {As rest st0 : List Value} {Q0 : Option Value → List va_W → Prop} {Sc Sr : List va_W} {C : va_W} {fs : List Value} (is rs : List Nat) (hct : Ct l Mc D Rc (.ref b :: As) Sc Q0) (hf : xfe M.2.2.2.2.2 pc = some (.invokevirtual ix)) (hlk : Lk M.2.1.cls ix Mc) (hm : LkV Mc As.length)
    (hst : st0 = As.reverse ++ .ref b :: rest) (hc : pk S is Sc) (hr : pk S rs Sr) (hn1 : va_nd is = true) (hn2 : va_nd rs = true) (hdis : ∀ i ∈ rs, i ∉ is) (hic : S[ic]? = some C) (hjc : C[jc]? = some (b, .inr (ci, fs))) (hci : gON[ci]? = some Mc.2.1.cls) (hlt : ci < 13)
    (hR : Rc.frames + 1 ≤ R.frames ∧ 8 + (Mc.2.2.2.1 + 11) + Rc.locals ≤ R.locals) (hrm : (rest.map fun v => v.category).sum ≤ 8) (h1 : k + Rc.cells ≤ R.cells) (h2 : n + Rc.slots ≤ R.slots)
    (kk : ∀ (v : Option Value) (S1 : List va_W), Q0 v S1 → Ex l M D R A Q mc ms (pc + 3) lv (v.toList ++ rest) (Sr ++ S1) (k + Rc.cells) (n + Rc.slots)) : Ex l M D R A Q mc ms pc lv st0 S k n := by
  intro p e s m args below meth c H locs ls F hS hP hD hl
  obtain ⟨ho, hx, hb, hml, -, hown, hts, -, hin, hK, hN, hX, hA, htb⟩ := id F
  have hd := htb _ (xfe_mem _ _ _ hf)
  obtain ⟨hpre, hsub⟩ := x_pre (av := .ref b :: As) F hS hP hD hc hn1
  obtain ⟨q0, hq0, -⟩ := fl_pos S ic jc C _ hic hjc
  cases hr0 : gCL[ci]? with
  | none => exact absurd (List.getElem?_eq_none_iff.mp hr0) (by show ¬ (13 ≤ ci); omega)
  | some r =>
    have hrn : r.1 = Mc.2.1.cls := Option.some.inj ((gNM_at hr0).symm.trans hci)
    obtain ⟨cell, g1, g2, g3⟩ := va_recv hK hP hr0 hq0
    rw [hrn] at g3
    refine x_call (va_runV (C := Mc.2.1.cls) (As := As) (rest := rest) ⟨hx, hb, hml, hown, hts⟩ (hct H.size) ⟨callB_of As.length hts hm.1.good rfl rfl rfl (hts _ hm.1.1) (hts _ hlk) hm.1.2.2 hR, hts _ hm.2.1, hts _ hm.2.2⟩ ⟨xP_blind, ⟨cell, g1, g2, g3⟩, hpre⟩ rfl rfl hl.1 hst (lv_room hrm) hd ⟨h1, h2⟩) hS hsub (fun v S1 H1 locs1 hq hP1 hD1 hk1 hS1 => ?_)
    obtain ⟨hP2, hD2⟩ := seg_join hP hD hc hr hn2 hdis hk1 hsub hP1 hD1
    exact kk v S1 hq p e s m args below meth c H1 locs1 ls F hS1 hP2 hD2 hl
end XC2
end
section
/-! OWN FRAME 10: static calls, constructors -/
section XC3
variable {l : Launch} {M : xM} {D : xD} {R : Room} {A : Nat → Prop} {Q : Array Value → State → Outcome → State → Prop} {mc ms pc k n : Nat} {lv : List (Nat × Value)} {S : List va_W}
theorem Ex.cs {Mc : xM} {Rc : Room} {ix : Nat} {As rest st0 : List Value} {Q0 : Option Value → List va_W → Prop} {Sc Sr : List va_W} (is rs : List Nat) (hct : Ct l Mc D Rc As Sc Q0) (hf : xfe M.2.2.2.2.2 pc = some (.invokestatic ix)) (hlk : Lk M.2.1.cls ix Mc) (hm : LkS Mc As.length)
    (hst : st0 = As.reverse ++ rest) (hc : pk S is Sc) (hr : pk S rs Sr) (hn1 : va_nd is = true) (hn2 : va_nd rs = true) (hdis : ∀ i ∈ rs, i ∉ is)
    (hR : Rc.frames + 1 ≤ R.frames ∧ 8 + (Mc.2.2.2.1 + 11) + Rc.locals ≤ R.locals) (hrm : (rest.map fun v => v.category).sum ≤ 8) (h1 : k + Rc.cells ≤ R.cells) (h2 : n + Rc.slots ≤ R.slots)
    (kk : ∀ (v : Option Value) (S1 : List va_W), Q0 v S1 → Ex l M D R A Q mc ms (pc + 3) lv (v.toList ++ rest) (Sr ++ S1) (k + Rc.cells) (n + Rc.slots)) : Ex l M D R A Q mc ms pc lv st0 S k n := by
  intro p e s m args below meth c H locs ls F hS hP hD hl
  obtain ⟨ho, hx, hb, hml, -, hown, hts, -, hin, hK, hN, hX, hA, htb⟩ := id F
  have hd := htb _ (xfe_mem _ _ _ hf)
  obtain ⟨hpre, hsub⟩ := x_pre (av := As) F hS hP hD hc hn1
  have hcb := callB_of (ret := Mc.2.2.2.2.1) As.length hts hm.1.good rfl rfl rfl (hts _ hm.1.1) (hts _ hlk) hm.1.2.2 hR
  refine x_call (va_runS (As := As) (rest := rest) ⟨hx, hb, hml, hown, hts⟩ (hct H.size) ⟨hcb, hts _ hm.2⟩ ⟨xP_blind, hpre⟩ rfl rfl hl.1 hst (lv_room hrm) hd ⟨h1, h2⟩) hS hsub (fun v S1 H1 locs1 hq hP1 hD1 hk1 hS1 => ?_)
  obtain ⟨hP2, hD2⟩ := seg_join hP hD hc hr hn2 hdis hk1 hsub hP1 hD1
  exact kk v S1 hq p e s m args below meth c H1 locs1 ls F hS1 hP2 hD2 hl
theorem Ex.csN {Mc : xM} {Rc : Room} {ix : Nat} {As rest st0 : List Value} {Q0 : Option Value → List va_W → Prop} {Sc Sr : List va_W} (is rs : List Nat) (hct : Ct l Mc D Rc As Sc Q0) (hf : xfe M.2.2.2.2.2 pc = some (.invokestatic ix)) (hlk : LkN M.2.1.cls ix Mc) (hm : LkS Mc As.length)
    (hst : st0 = As.reverse ++ rest) (hc : pk S is Sc) (hr : pk S rs Sr) (hn1 : va_nd is = true) (hn2 : va_nd rs = true) (hdis : ∀ i ∈ rs, i ∉ is)
    (hR : Rc.frames + 1 ≤ R.frames ∧ 8 + (Mc.2.2.2.1 + 11) + Rc.locals ≤ R.locals) (hrm : (rest.map fun v => v.category).sum ≤ 8) (h1 : k + Rc.cells ≤ R.cells) (h2 : n + Rc.slots ≤ R.slots)
    (kk : ∀ (v : Option Value) (S1 : List va_W), Q0 v S1 → Ex l M D R A Q mc ms (pc + 3) lv (v.toList ++ rest) (Sr ++ S1) (k + Rc.cells) (n + Rc.slots)) : Ex l M D R A Q mc ms pc lv st0 S k n := by
  intro p e s m args below meth c H locs ls F hS hP hD hl
  obtain ⟨ho, hx, hb, hml, -, hown, hts, -, hin, hK, hN, hX, hA, htb⟩ := id F
  have hd := htb _ (xfe_mem _ _ _ hf)
  obtain ⟨hpre, hsub⟩ := x_pre (av := As) F hS hP hD hc hn1
  have hcb := va_cnB (bytes := Mc.2.2.1) (maxL := Mc.2.2.2.1) (ret := Mc.2.2.2.2.1) As.length hts hm.1.good rfl rfl rfl (hN.1 _ hlk) (hts _ hm.1.1) hm.1.2.2 hR
  refine x_call (va_runSN (As := As) (rest := rest) ⟨hx, hb, hml, hown, hts⟩ (hct H.size) ⟨hcb, hts _ hm.2, trivial⟩ ⟨xP_blind, hpre⟩ rfl rfl hl.1 hst (lv_room hrm) hd ⟨h1, h2⟩) hS hsub (fun v S1 H1 locs1 hq hP1 hD1 hk1 hS1 => ?_)
  obtain ⟨hP2, hD2⟩ := seg_join hP hD hc hr hn2 hdis hk1 hsub hP1 hD1
  exact kk v S1 hq p e s m args below meth c H1 locs1 ls F hS1 hP2 hD2 hl
theorem Ex.ci {Mc : xM} {Rc : Room} {b ix : Nat} {As rest st0 : List Value} {Q0 : Option Value → List va_W → Prop} {Sc Sr : List va_W} (is rs : List Nat) (hct : Ct l Mc D Rc (.ref b :: As) Sc Q0) (hf : xfe M.2.2.2.2.2 pc = some (.invokespecial ix)) (hlk : Lk M.2.1.cls ix Mc) (hm : LkI Mc As.length)
    (hst : st0 = As.reverse ++ .ref b :: rest) (hc : pk S is Sc) (hr : pk S rs Sr) (hn1 : va_nd is = true) (hn2 : va_nd rs = true) (hdis : ∀ i ∈ rs, i ∉ is)
    (hR : Rc.frames + 1 ≤ R.frames ∧ 8 + (Mc.2.2.2.1 + 11) + Rc.locals ≤ R.locals) (hrm : (rest.map fun v => v.category).sum ≤ 8) (h1 : k + Rc.cells ≤ R.cells) (h2 : n + Rc.slots ≤ R.slots)
    (kk : ∀ (v : Option Value) (S1 : List va_W), Q0 v S1 → Ex l M D R A Q mc ms (pc + 3) lv (v.toList ++ rest) (Sr ++ S1) (k + Rc.cells) (n + Rc.slots)) : Ex l M D R A Q mc ms pc lv st0 S k n := by
  intro p e s m args below meth c H locs ls F hS hP hD hl
  obtain ⟨ho, hx, hb, hml, -, hown, hts, -, hin, hK, hN, hX, hA, htb⟩ := id F
  have hd := htb _ (xfe_mem _ _ _ hf)
  obtain ⟨hpre, hsub⟩ := x_pre (av := (.ref b :: As)) F hS hP hD hc hn1
  have hcb := callB_of (ret := Mc.2.2.2.2.1) As.length hts hm.1.good rfl rfl rfl (hts _ hm.1.1) (hts _ hlk) hm.1.2.2 hR
  rw [hm.2.2.2] at hcb
  refine x_call (va_runI (As := As) (rest := rest) ⟨hx, hb, hml, hown, hts⟩ (hct H.size) ⟨hcb, hm.2.2.1, hts _ hm.2.1⟩ ⟨xP_blind, hpre⟩ rfl rfl hl.1 hst (lv_room hrm) hd ⟨h1, h2⟩) hS hsub (fun v S1 H1 locs1 hq hP1 hD1 hk1 hS1 => ?_)
  obtain ⟨hP2, hD2⟩ := seg_join hP hD hc hr hn2 hdis hk1 hsub hP1 hD1
  exact kk v S1 hq p e s m args below meth c H1 locs1 ls F hS1 hP2 hD2 hl
theorem Ex.ciN {Mc : xM} {Rc : Room} {b ix : Nat} {As rest st0 : List Value} {Q0 : Option Value → List va_W → Prop} {Sc Sr : List va_W} (is rs : List Nat) (hct : Ct l Mc D Rc (.ref b :: As) Sc Q0) (hf : xfe M.2.2.2.2.2 pc = some (.invokespecial ix)) (hlk : LkN M.2.1.cls ix Mc) (hm : LkI Mc As.length)
    (hst : st0 = As.reverse ++ .ref b :: rest) (hc : pk S is Sc) (hr : pk S rs Sr) (hn1 : va_nd is = true) (hn2 : va_nd rs = true) (hdis : ∀ i ∈ rs, i ∉ is)
    (hR : Rc.frames + 1 ≤ R.frames ∧ 8 + (Mc.2.2.2.1 + 11) + Rc.locals ≤ R.locals) (hrm : (rest.map fun v => v.category).sum ≤ 8) (h1 : k + Rc.cells ≤ R.cells) (h2 : n + Rc.slots ≤ R.slots)
    (kk : ∀ (v : Option Value) (S1 : List va_W), Q0 v S1 → Ex l M D R A Q mc ms (pc + 3) lv (v.toList ++ rest) (Sr ++ S1) (k + Rc.cells) (n + Rc.slots)) : Ex l M D R A Q mc ms pc lv st0 S k n := by
  intro p e s m args below meth c H locs ls F hS hP hD hl
  obtain ⟨ho, hx, hb, hml, -, hown, hts, -, hin, hK, hN, hX, hA, htb⟩ := id F
  have hd := htb _ (xfe_mem _ _ _ hf)
  obtain ⟨hpre, hsub⟩ := x_pre (av := (.ref b :: As)) F hS hP hD hc hn1
  have hcb := va_cnB (bytes := Mc.2.2.1) (maxL := Mc.2.2.2.1) (ret := Mc.2.2.2.2.1) As.length hts hm.1.good rfl rfl rfl (hN.1 _ hlk) (hts _ hm.1.1) hm.1.2.2 hR
  rw [hm.2.2.2] at hcb
  refine x_call (va_runIN (As := As) (rest := rest) ⟨hx, hb, hml, hown, hts⟩ (hct H.size) ⟨hcb, hm.2.2.1, hts _ hm.2.1⟩ ⟨xP_blind, hpre⟩ rfl rfl hl.1 hst (lv_room hrm) hd ⟨h1, h2⟩) hS hsub (fun v S1 H1 locs1 hq hP1 hD1 hk1 hS1 => ?_)
  obtain ⟨hP2, hD2⟩ := seg_join hP hD hc hr hn2 hdis hk1 hsub hP1 hD1
  exact kk v S1 hq p e s m args below meth c H1 locs1 ls F hS1 hP2 hD2 hl
/-- Object.<init> -/
theorem gOI : Cond.instanceMethod Lib.objectInit ∈ gTB ∧ Cond.code Lib.objectInit ⟨#[0xb1]⟩ 1 none ∈ gTB := by decide +kernel
theorem Ex.oi {ix a : Nat} {rest : List Value} (hf : xfe M.2.2.2.2.2 pc = some (.invokespecial ix)) (hlk : Cond.methodLink M.2.1.cls ix Lib.objectInit ∈ gTB) (hR : 1 ≤ R.frames) (hR2 : (rest.map fun v => v.category).sum + 12 ≤ R.locals) (kk : Ex l M D R A Q mc ms (pc + 3) lv rest S k n) : Ex l M D R A Q mc ms pc lv (.ref a :: rest) S k n := by
  intro p e s m args below meth c H locs ls F hS hP hD hl
  obtain ⟨ho, hx, hb, hml, -, hown, hts, -, hin, hK, hN, hX, hA, htb⟩ := id F
  have hd := htb _ (xfe_mem _ _ _ hf)
  exact W.objInit hx hb hown (hts _ hlk) (hts _ gOI.1) (hts _ gOI.2) rfl (by rw [hml]; exact hl.1) rfl hd hR (by show 2 * 0 + (rest.map fun v => v.category).sum + 12 ≤ R.locals; omega) (kk p e s m args below meth c H locs ls F hS hP hD hl)
end XC3
end
section
/-! methods, links (by program) -/
theorem gw {w : Cond} (i : Nat) (h : tables_1[i]? = some w) (hg : goodWord w = true) : w ∈ gTB := List.mem_filter.mpr ⟨List.mem_append_right _ (List.mem_of_getElem? h), hg⟩
theorem gwp {w : Cond} (i : Nat) (h : (k2_sels lw_privs)[i]? = some w) (hg : goodWord w = true) : w ∈ gTB := List.mem_filter.mpr ⟨List.mem_append_left _ (List.mem_of_getElem? h), hg⟩
theorem gwn {w : Cond} (i : Nat) (h : tables_1[i]? = some w) (hg : isNst w = true) : w ∈ gNW := List.mem_filter.mpr ⟨List.mem_append_right _ (List.mem_of_getElem? h), hg⟩
abbrev mDa_init : xM := (0, ⟨"DrillArchive", "<init>", "()V"⟩, prog_1_method_1_code, 1, none, tbDa_init)
theorem lmDa_init : LkM mDa_init 0 := ⟨gw 1 (by decide +kernel) rfl, gw 28 (by decide +kernel) rfl, by decide, by decide, by decide +kernel⟩
theorem lcDa_init : LkI mDa_init 0 := ⟨lmDa_init, gw 27 (by decide +kernel) rfl, rfl, rfl⟩
abbrev mPl_init : xM := (4, ⟨"DrillArchive$Planner", "<init>", "()V"⟩, prog_5_method_1_code, 1, none, tbPl_init)
theorem lmPl_init : LkM mPl_init 0 := ⟨gw 2 (by decide +kernel) rfl, gw 36 (by decide +kernel) rfl, by decide, by decide, by decide +kernel⟩
theorem lcPl_init : LkI mPl_init 0 := ⟨lmPl_init, gw 35 (by decide +kernel) rfl, rfl, rfl⟩
abbrev mHi_init : xM := (3, ⟨"DrillArchive$Hit", "<init>", "(IIIIIII)V"⟩, prog_4_method_1_code, 8, none, tbHi_init)
theorem lmHi_init : LkM mHi_init 7 := ⟨gw 3 (by decide +kernel) rfl, gw 42 (by decide +kernel) rfl, by decide, by decide, by decide +kernel⟩
theorem lcHi_init : LkI mHi_init 7 := ⟨lmHi_init, gw 41 (by decide +kernel) rfl, rfl, rfl⟩
abbrev mTw_init : xM := (8, ⟨"DrillArchive$TextWriter", "<init>", "(LDrillArchive$Planner;)V"⟩, prog_9_method_1_code, 2, none, tbTw_init)
theorem lmTw_init : LkM mTw_init 1 := ⟨gw 4 (by decide +kernel) rfl, gw 102 (by decide +kernel) rfl, by decide, by decide, by decide +kernel⟩
theorem lcTw_init : LkI mTw_init 1 := ⟨lmTw_init, gw 101 (by decide +kernel) rfl, rfl, rfl⟩
abbrev mRo_init : xM := (5, ⟨"DrillArchive$Row", "<init>", "(I)V"⟩, prog_6_method_1_code, 2, none, tbRo_init)
theorem lmRo_init : LkM mRo_init 1 := ⟨gw 5 (by decide +kernel) rfl, gw 108 (by decide +kernel) rfl, by decide, by decide, by decide +kernel⟩
theorem lcRo_init : LkI mRo_init 1 := ⟨lmRo_init, gw 107 (by decide +kernel) rfl, rfl, rfl⟩
abbrev mDr_init : xM := (1, ⟨"DrillArchive$Drawing", "<init>", "()V"⟩, prog_2_method_1_code, 1, none, tbDr_init)
theorem lmDr_init : LkM mDr_init 0 := ⟨gw 6 (by decide +kernel) rfl, gw 148 (by decide +kernel) rfl, by decide, by decide, by decide +kernel⟩
theorem lcDr_init : LkI mDr_init 0 := ⟨lmDr_init, gw 147 (by decide +kernel) rfl, rfl, rfl⟩
abbrev mFs_init : xM := (2, ⟨"DrillArchive$FileSet", "<init>", "()V"⟩, prog_3_method_1_code, 1, none, tbFs_init)
theorem lmFs_init : LkM mFs_init 0 := ⟨gw 7 (by decide +kernel) rfl, gw 173 (by decide +kernel) rfl, by decide, by decide, by decide +kernel⟩
theorem lcFs_init : LkI mFs_init 0 := ⟨lmFs_init, gw 172 (by decide +kernel) rfl, rfl, rfl⟩
abbrev mDa_unit : xM := (0, ⟨"DrillArchive", "unit", "(I)Z"⟩, prog_1_method_6_code, 3, (some .boolean), tbDa_unit)
theorem lmDa_unit : LkM mDa_unit 1 := ⟨gw 1 (by decide +kernel) rfl, gw 207 (by decide +kernel) rfl, by decide, by decide, by decide +kernel⟩
theorem lcDa_unit : LkV mDa_unit 1 := ⟨lmDa_unit, gw 205 (by decide +kernel) rfl, gw 206 (by decide +kernel) rfl⟩
abbrev mRo_push : xM := (5, ⟨"DrillArchive$Row", "push", "(I)Z"⟩, prog_6_method_2_code, 2, (some .boolean), tbRo_push)
theorem lmRo_push : LkM mRo_push 1 := ⟨gw 5 (by decide +kernel) rfl, gw 211 (by decide +kernel) rfl, by decide, by decide, by decide +kernel⟩
theorem lcRo_push : LkV mRo_push 1 := ⟨lmRo_push, gw 209 (by decide +kernel) rfl, gw 210 (by decide +kernel) rfl⟩
abbrev mJAr_copyOf : xM := (14, ⟨"java/util/Arrays", "copyOf", "([II)[I"⟩, prog_24_method_123_code, 3, (some (.array .int)), tbJAr_copyOf)
theorem lmJAr_copyOf : LkM mJAr_copyOf 2 := ⟨gw 15 (by decide +kernel) rfl, gw 214 (by decide +kernel) rfl, by decide, by decide, by decide +kernel⟩
theorem lcJAr_copyOf : LkS mJAr_copyOf 2 := ⟨lmJAr_copyOf, gw 213 (by decide +kernel) rfl⟩
abbrev mJMa_min : xM := (15, ⟨"java/lang/Math", "min", "(II)I"⟩, prog_17_method_69_code, 2, (some .int), tbJMa_min)
theorem lmJMa_min : LkM mJMa_min 2 := ⟨gw 16 (by decide +kernel) rfl, gw 224 (by decide +kernel) rfl, by decide, by decide, by decide +kernel⟩
theorem lcJMa_min : LkS mJMa_min 2 := ⟨lmJMa_min, gw 223 (by decide +kernel) rfl⟩
abbrev mDa_read : xM := (0, ⟨"DrillArchive", "read", "()I"⟩, prog_1_method_7_code, 3, (some .int), tbDa_read)
theorem lmDa_read : LkM mDa_read 0 := ⟨gw 1 (by decide +kernel) rfl, gw 231 (by decide +kernel) rfl, by decide, by decide, by decide +kernel⟩
theorem lcDa_read : LkV mDa_read 0 := ⟨lmDa_read, gw 229 (by decide +kernel) rfl, gw 230 (by decide +kernel) rfl⟩
abbrev mTr_init : xM := (7, ⟨"DrillArchive$TextReader", "<init>", "(LDrillArchive$Row;LDrillArchive$Drawing;)V"⟩, prog_8_method_1_code, 3, none, tbTr_init)
theorem lmTr_init : LkM mTr_init 2 := ⟨gw 22 (by decide +kernel) rfl, gw 236 (by decide +kernel) rfl, by decide, by decide, by decide +kernel⟩
theorem lcTr_init : LkI mTr_init 2 := ⟨lmTr_init, gw 235 (by decide +kernel) rfl, rfl, rfl⟩
abbrev mTr_firstWrong : xM := (7, ⟨"DrillArchive$TextReader", "firstWrong", "()I"⟩, prog_8_method_2_code, 2, (some .int), tbTr_firstWrong)
theorem lmTr_firstWrong : LkM mTr_firstWrong 0 := ⟨gw 22 (by decide +kernel) rfl, gw 269 (by decide +kernel) rfl, by decide, by decide, by decide +kernel⟩
theorem lcTr_firstWrong : LkV mTr_firstWrong 0 := ⟨lmTr_firstWrong, gw 267 (by decide +kernel) rfl, gw 268 (by decide +kernel) rfl⟩
abbrev mTr_readLayers : xM := (7, ⟨"DrillArchive$TextReader", "readLayers", "()Z"⟩, prog_8_method_3_code, 3, (some .boolean), tbTr_readLayers)
theorem lmTr_readLayers : LkM mTr_readLayers 0 := ⟨gw 22 (by decide +kernel) rfl, gw 273 (by decide +kernel) rfl, by decide, by decide, by decide +kernel⟩
theorem lcTr_readLayers : LkV mTr_readLayers 0 := ⟨lmTr_readLayers, gw 272 (by decide +kernel) rfl, gwp 0 (by decide +kernel) rfl⟩
abbrev mTr_passes : xM := (7, ⟨"DrillArchive$TextReader", "passes", "(Ljava/lang/String;)Z"⟩, prog_8_method_12_code, 3, (some .boolean), tbTr_passes)
theorem lmTr_passes : LkM mTr_passes 1 := ⟨gw 22 (by decide +kernel) rfl, gw 278 (by decide +kernel) rfl, by decide, by decide, by decide +kernel⟩
theorem lcTr_passes : LkV mTr_passes 1 := ⟨lmTr_passes, gw 277 (by decide +kernel) rfl, gwp 1 (by decide +kernel) rfl⟩
abbrev mJSt_length : xM := (16, ⟨"java/lang/String", "length", "()I"⟩, prog_19_method_54_code, 1, (some .int), tbJSt_length)
theorem lmJSt_length : LkM mJSt_length 0 := ⟨gw 18 (by decide +kernel) rfl, gw 282 (by decide +kernel) rfl, by decide, by decide, by decide +kernel⟩
theorem lcJSt_length : LkV mJSt_length 0 := ⟨lmJSt_length, gw 280 (by decide +kernel) rfl, gw 281 (by decide +kernel) rfl⟩
abbrev mJSt_coder : xM := (16, ⟨"java/lang/String", "coder", "()B"⟩, prog_19_method_152_code, 1, (some .byte), tbJSt_coder)
theorem lmJSt_coder : LkM mJSt_coder 0 := ⟨gw 18 (by decide +kernel) rfl, gw 286 (by decide +kernel) rfl, by decide, by decide, by decide +kernel⟩
theorem lcJSt_coder : LkV mJSt_coder 0 := ⟨lmJSt_coder, gw 284 (by decide +kernel) rfl, gw 285 (by decide +kernel) rfl⟩
abbrev mRo_get : xM := (5, ⟨"DrillArchive$Row", "get", "(I)I"⟩, prog_6_method_5_code, 2, (some .int), tbRo_get)
theorem lmRo_get : LkM mRo_get 1 := ⟨gw 5 (by decide +kernel) rfl, gw 292 (by decide +kernel) rfl, by decide, by decide, by decide +kernel⟩
theorem lcRo_get : LkV mRo_get 1 := ⟨lmRo_get, gw 290 (by decide +kernel) rfl, gw 291 (by decide +kernel) rfl⟩
abbrev mJSt_charAt : xM := (16, ⟨"java/lang/String", "charAt", "(I)C"⟩, prog_19_method_56_code, 2, (some .char), tbJSt_charAt)
theorem lmJSt_charAt : LkM mJSt_charAt 1 := ⟨gw 18 (by decide +kernel) rfl, gw 296 (by decide +kernel) rfl, by decide, by decide, by decide +kernel⟩
theorem lcJSt_charAt : LkV mJSt_charAt 1 := ⟨lmJSt_charAt, gw 294 (by decide +kernel) rfl, gw 295 (by decide +kernel) rfl⟩
abbrev mJSt_isLatin1 : xM := (16, ⟨"java/lang/String", "isLatin1", "()Z"⟩, prog_19_method_154_code, 1, (some .boolean), tbJSt_isLatin1)
theorem lmJSt_isLatin1 : LkM mJSt_isLatin1 0 := ⟨gw 18 (by decide +kernel) rfl, gw 300 (by decide +kernel) rfl, by decide, by decide, by decide +kernel⟩
theorem lcJSt_isLatin1 : LkV mJSt_isLatin1 0 := ⟨lmJSt_isLatin1, gw 298 (by decide +kernel) rfl, gw 299 (by decide +kernel) rfl⟩
abbrev mJSl_charAt : xM := (17, ⟨"java/lang/StringLatin1", "charAt", "([BI)C"⟩, prog_20_method_2_code, 2, (some .char), tbJSl_charAt)
theorem lmJSl_charAt : LkM mJSl_charAt 2 := ⟨gw 19 (by decide +kernel) rfl, gw 303 (by decide +kernel) rfl, by decide, by decide, by decide +kernel⟩
theorem lcJSl_charAt : LkS mJSl_charAt 2 := ⟨lmJSl_charAt, gw 302 (by decide +kernel) rfl⟩
abbrev mJSt_checkIndex : xM := (16, ⟨"java/lang/String", "checkIndex", "(II)V"⟩, prog_19_method_155_code, 2, none, tbJSt_checkIndex)
theorem lmJSt_checkIndex : LkM mJSt_checkIndex 2 := ⟨gw 18 (by decide +kernel) rfl, gw 306 (by decide +kernel) rfl, by decide, by decide, by decide +kernel⟩
theorem lcJSt_checkIndex : LkS mJSt_checkIndex 2 := ⟨lmJSt_checkIndex, gw 305 (by decide +kernel) rfl⟩
abbrev mJPr_checkIndex : xM := (22, ⟨"jdk/internal/util/Preconditions", "checkIndex", "(IILjava/util/function/BiFunction;)I"⟩, prog_25_method_11_code, 3, (some .int), tbJPr_checkIndex)
theorem lmJPr_checkIndex : LkM mJPr_checkIndex 3 := ⟨gw 20 (by decide +kernel) rfl, gw 311 (by decide +kernel) rfl, by decide, by decide, by decide +kernel⟩
theorem lcJPr_checkIndex : LkS mJPr_checkIndex 3 := ⟨lmJPr_checkIndex, gw 310 (by decide +kernel) rfl⟩
abbrev mTr_readLayerLine : xM := (7, ⟨"DrillArchive$TextReader", "readLayerLine", "()Z"⟩, prog_8_method_6_code, 2, (some .boolean), tbTr_readLayerLine)
theorem lmTr_readLayerLine : LkM mTr_readLayerLine 0 := ⟨gw 22 (by decide +kernel) rfl, gw 334 (by decide +kernel) rfl, by decide, by decide, by decide +kernel⟩
theorem lcTr_readLayerLine : LkV mTr_readLayerLine 0 := ⟨lmTr_readLayerLine, gw 333 (by decide +kernel) rfl, gwp 2 (by decide +kernel) rfl⟩
abbrev mTr_readPart : xM := (7, ⟨"DrillArchive$TextReader", "readPart", "(CZ)Z"⟩, prog_8_method_11_code, 6, (some .boolean), tbTr_readPart)
theorem lmTr_readPart : LkM mTr_readPart 2 := ⟨gw 22 (by decide +kernel) rfl, gw 338 (by decide +kernel) rfl, by decide, by decide, by decide +kernel⟩
theorem lcTr_readPart : LkV mTr_readPart 2 := ⟨lmTr_readPart, gw 337 (by decide +kernel) rfl, gwp 3 (by decide +kernel) rfl⟩
abbrev mTr_isDigit : xM := (7, ⟨"DrillArchive$TextReader", "isDigit", "(I)Z"⟩, prog_8_method_14_code, 1, (some .boolean), tbTr_isDigit)
theorem lmTr_isDigit : LkM mTr_isDigit 1 := ⟨gw 22 (by decide +kernel) rfl, gw 341 (by decide +kernel) rfl, by decide, by decide, by decide +kernel⟩
theorem lcTr_isDigit : LkS mTr_isDigit 1 := ⟨lmTr_isDigit, gw 340 (by decide +kernel) rfl⟩
abbrev mDa_isLayer : xM := (0, ⟨"DrillArchive", "isLayer", "(I)Z"⟩, prog_1_method_24_code, 1, (some .boolean), tbDa_isLayer)
theorem lmDa_isLayer : LkM mDa_isLayer 1 := ⟨gw 1 (by decide +kernel) rfl, gw 345 (by decide +kernel) rfl, by decide, by decide, by decide +kernel⟩
theorem lcDa_isLayer : LkS mDa_isLayer 1 := ⟨lmDa_isLayer, gw 344 (by decide +kernel) rfl⟩
abbrev mTr_can : xM := (7, ⟨"DrillArchive$TextReader", "can", "(ZI)Z"⟩, prog_8_method_13_code, 3, (some .boolean), tbTr_can)
theorem lmTr_can : LkM mTr_can 2 := ⟨gw 22 (by decide +kernel) rfl, gw 349 (by decide +kernel) rfl, by decide, by decide, by decide +kernel⟩
theorem lcTr_can : LkV mTr_can 2 := ⟨lmTr_can, gw 348 (by decide +kernel) rfl, gwp 4 (by decide +kernel) rfl⟩
abbrev mTr_readTools : xM := (7, ⟨"DrillArchive$TextReader", "readTools", "()Z"⟩, prog_8_method_4_code, 3, (some .boolean), tbTr_readTools)
theorem lmTr_readTools : LkM mTr_readTools 0 := ⟨gw 22 (by decide +kernel) rfl, gw 353 (by decide +kernel) rfl, by decide, by decide, by decide +kernel⟩
theorem lcTr_readTools : LkV mTr_readTools 0 := ⟨lmTr_readTools, gw 352 (by decide +kernel) rfl, gwp 5 (by decide +kernel) rfl⟩
abbrev mTr_readToolLine : xM := (7, ⟨"DrillArchive$TextReader", "readToolLine", "()Z"⟩, prog_8_method_7_code, 4, (some .boolean), tbTr_readToolLine)
theorem lmTr_readToolLine : LkM mTr_readToolLine 0 := ⟨gw 22 (by decide +kernel) rfl, gw 357 (by decide +kernel) rfl, by decide, by decide, by decide +kernel⟩
theorem lcTr_readToolLine : LkV mTr_readToolLine 0 := ⟨lmTr_readToolLine, gw 356 (by decide +kernel) rfl, gwp 6 (by decide +kernel) rfl⟩
abbrev mDa_isDiameter : xM := (0, ⟨"DrillArchive", "isDiameter", "(J)Z"⟩, prog_1_method_23_code, 2, (some .boolean), tbDa_isDiameter)
theorem lmDa_isDiameter : LkM mDa_isDiameter 1 := ⟨gw 1 (by decide +kernel) rfl, gw 362 (by decide +kernel) rfl, by decide, by decide, by decide +kernel⟩
theorem lcDa_isDiameter : LkS mDa_isDiameter 1 := ⟨lmDa_isDiameter, gw 361 (by decide +kernel) rfl⟩
abbrev mDr_addTool : xM := (1, ⟨"DrillArchive$Drawing", "addTool", "(IZ)I"⟩, prog_2_method_2_code, 3, (some .int), tbDr_addTool)
theorem lmDr_addTool : LkM mDr_addTool 2 := ⟨gw 6 (by decide +kernel) rfl, gw 367 (by decide +kernel) rfl, by decide, by decide, by decide +kernel⟩
theorem lcDr_addTool : LkV mDr_addTool 2 := ⟨lmDr_addTool, gw 365 (by decide +kernel) rfl, gw 366 (by decide +kernel) rfl⟩
abbrev mTo_init : xM := (9, ⟨"DrillArchive$Tool", "<init>", "(IZ)V"⟩, prog_10_method_1_code, 3, none, tbTo_init)
theorem lmTo_init : LkM mTo_init 2 := ⟨gw 13 (by decide +kernel) rfl, gw 371 (by decide +kernel) rfl, by decide, by decide, by decide +kernel⟩
theorem lcTo_init : LkI mTo_init 2 := ⟨lmTo_init, gw 370 (by decide +kernel) rfl, rfl, rfl⟩
abbrev mTr_readHits : xM := (7, ⟨"DrillArchive$TextReader", "readHits", "()Z"⟩, prog_8_method_5_code, 3, (some .boolean), tbTr_readHits)
theorem lmTr_readHits : LkM mTr_readHits 0 := ⟨gw 22 (by decide +kernel) rfl, gw 407 (by decide +kernel) rfl, by decide, by decide, by decide +kernel⟩
theorem lcTr_readHits : LkV mTr_readHits 0 := ⟨lmTr_readHits, gw 406 (by decide +kernel) rfl, gwp 7 (by decide +kernel) rfl⟩
abbrev mTr_readHitLine : xM := (7, ⟨"DrillArchive$TextReader", "readHitLine", "()Z"⟩, prog_8_method_9_code, 9, (some .boolean), tbTr_readHitLine)
theorem lmTr_readHitLine : LkM mTr_readHitLine 0 := ⟨gw 22 (by decide +kernel) rfl, gw 411 (by decide +kernel) rfl, by decide, by decide, by decide +kernel⟩
theorem lcTr_readHitLine : LkV mTr_readHitLine 0 := ⟨lmTr_readHitLine, gw 410 (by decide +kernel) rfl, gwp 8 (by decide +kernel) rfl⟩
abbrev mTr_readPlace : xM := (7, ⟨"DrillArchive$TextReader", "readPlace", "()Z"⟩, prog_8_method_10_code, 1, (some .boolean), tbTr_readPlace)
theorem lmTr_readPlace : LkM mTr_readPlace 0 := ⟨gw 22 (by decide +kernel) rfl, gw 415 (by decide +kernel) rfl, by decide, by decide, by decide +kernel⟩
theorem lcTr_readPlace : LkV mTr_readPlace 0 := ⟨lmTr_readPlace, gw 414 (by decide +kernel) rfl, gwp 9 (by decide +kernel) rfl⟩
abbrev mDa_isPlace : xM := (0, ⟨"DrillArchive", "isPlace", "(JJ)Z"⟩, prog_1_method_25_code, 4, (some .boolean), tbDa_isPlace)
theorem lmDa_isPlace : LkM mDa_isPlace 2 := ⟨gw 1 (by decide +kernel) rfl, gw 419 (by decide +kernel) rfl, by decide, by decide, by decide +kernel⟩
theorem lcDa_isPlace : LkS mDa_isPlace 2 := ⟨lmDa_isPlace, gw 418 (by decide +kernel) rfl⟩
abbrev mDr_addHit : xM := (1, ⟨"DrillArchive$Drawing", "addHit", "(LDrillArchive$Hit;)I"⟩, prog_2_method_3_code, 3, (some .int), tbDr_addHit)
theorem lmDr_addHit : LkM mDr_addHit 1 := ⟨gw 6 (by decide +kernel) rfl, gw 427 (by decide +kernel) rfl, by decide, by decide, by decide +kernel⟩
theorem lcDr_addHit : LkV mDr_addHit 1 := ⟨lmDr_addHit, gw 425 (by decide +kernel) rfl, gw 426 (by decide +kernel) rfl⟩
abbrev mDr_toolAt : xM := (1, ⟨"DrillArchive$Drawing", "toolAt", "(I)LDrillArchive$Tool;"⟩, prog_2_method_4_code, 2, (some (.object "DrillArchive$Tool")), tbDr_toolAt)
theorem lmDr_toolAt : LkM mDr_toolAt 1 := ⟨gw 6 (by decide +kernel) rfl, gw 431 (by decide +kernel) rfl, by decide, by decide, by decide +kernel⟩
theorem lcDr_toolAt : LkV mDr_toolAt 1 := ⟨lmDr_toolAt, gw 429 (by decide +kernel) rfl, gw 430 (by decide +kernel) rfl⟩
abbrev mTo_addHit : xM := (9, ⟨"DrillArchive$Tool", "addHit", "(I)V"⟩, prog_10_method_2_code, 2, none, tbTo_addHit)
theorem lmTo_addHit : LkM mTo_addHit 1 := ⟨gw 13 (by decide +kernel) rfl, gw 435 (by decide +kernel) rfl, by decide, by decide, by decide +kernel⟩
theorem lcTo_addHit : LkV mTo_addHit 1 := ⟨lmTo_addHit, gw 433 (by decide +kernel) rfl, gw 434 (by decide +kernel) rfl⟩
abbrev mTr_readChoiceLine : xM := (7, ⟨"DrillArchive$TextReader", "readChoiceLine", "()Z"⟩, prog_8_method_8_code, 2, (some .boolean), tbTr_readChoiceLine)
theorem lmTr_readChoiceLine : LkM mTr_readChoiceLine 0 := ⟨gw 22 (by decide +kernel) rfl, gw 440 (by decide +kernel) rfl, by decide, by decide, by decide +kernel⟩
theorem lcTr_readChoiceLine : LkV mTr_readChoiceLine 0 := ⟨lmTr_readChoiceLine, gw 439 (by decide +kernel) rfl, gwp 10 (by decide +kernel) rfl⟩
abbrev mRo_empty : xM := (5, ⟨"DrillArchive$Row", "empty", "()V"⟩, prog_6_method_7_code, 1, none, tbRo_empty)
theorem lmRo_empty : LkM mRo_empty 0 := ⟨gw 5 (by decide +kernel) rfl, gw 446 (by decide +kernel) rfl, by decide, by decide, by decide +kernel⟩
theorem lcRo_empty : LkV mRo_empty 0 := ⟨lmRo_empty, gw 444 (by decide +kernel) rfl, gw 445 (by decide +kernel) rfl⟩
abbrev mTw_forget : xM := (8, ⟨"DrillArchive$TextWriter", "forget", "()V"⟩, prog_9_method_2_code, 1, none, tbTw_forget)
theorem lmTw_forget : LkM mTw_forget 0 := ⟨gw 4 (by decide +kernel) rfl, gw 450 (by decide +kernel) rfl, by decide, by decide, by decide +kernel⟩
theorem lcTw_forget : LkV mTw_forget 0 := ⟨lmTw_forget, gw 448 (by decide +kernel) rfl, gw 449 (by decide +kernel) rfl⟩
abbrev mDa_feed : xM := (0, ⟨"DrillArchive", "feed", "(I)Z"⟩, prog_1_method_15_code, 2, (some .boolean), tbDa_feed)
theorem lmDa_feed : LkM mDa_feed 1 := ⟨gw 1 (by decide +kernel) rfl, gw 454 (by decide +kernel) rfl, by decide, by decide, by decide +kernel⟩
theorem lcDa_feed : LkV mDa_feed 1 := ⟨lmDa_feed, gw 452 (by decide +kernel) rfl, gw 453 (by decide +kernel) rfl⟩
abbrev mDa_isByte : xM := (0, ⟨"DrillArchive", "isByte", "(I)Z"⟩, prog_1_method_27_code, 1, (some .boolean), tbDa_isByte)
theorem lmDa_isByte : LkM mDa_isByte 1 := ⟨gw 1 (by decide +kernel) rfl, gw 457 (by decide +kernel) rfl, by decide, by decide, by decide +kernel⟩
theorem lcDa_isByte : LkS mDa_isByte 1 := ⟨lmDa_isByte, gw 456 (by decide +kernel) rfl⟩
abbrev mDa_open : xM := (0, ⟨"DrillArchive", "open", "()I"⟩, prog_1_method_16_code, 3, (some .int), tbDa_open)
theorem lmDa_open : LkM mDa_open 0 := ⟨gw 1 (by decide +kernel) rfl, gw 461 (by decide +kernel) rfl, by decide, by decide, by decide +kernel⟩
theorem lcDa_open : LkV mDa_open 0 := ⟨lmDa_open, gw 459 (by decide +kernel) rfl, gw 460 (by decide +kernel) rfl⟩
abbrev mFs_take : xM := (2, ⟨"DrillArchive$FileSet", "take", "(LDrillArchive$Row;)Z"⟩, prog_3_method_6_code, 5, (some .boolean), tbFs_take)
theorem lmFs_take : LkM mFs_take 1 := ⟨gw 7 (by decide +kernel) rfl, gw 465 (by decide +kernel) rfl, by decide, by decide, by decide +kernel⟩
theorem lcFs_take : LkV mFs_take 1 := ⟨lmFs_take, gw 463 (by decide +kernel) rfl, gw 464 (by decide +kernel) rfl⟩
abbrev mFs_takeFile : xM := (2, ⟨"DrillArchive$FileSet", "takeFile", "(LDrillArchive$Row;I)I"⟩, prog_3_method_7_code, 8, (some .int), tbFs_takeFile)
theorem lmFs_takeFile : LkM mFs_takeFile 2 := ⟨gw 7 (by decide +kernel) rfl, gw 470 (by decide +kernel) rfl, by decide, by decide, by decide +kernel⟩
theorem lcFs_takeFile : LkV mFs_takeFile 2 := ⟨lmFs_takeFile, gw 469 (by decide +kernel) rfl, gwp 11 (by decide +kernel) rfl⟩
abbrev mFs_pair : xM := (2, ⟨"DrillArchive$FileSet", "pair", "(LDrillArchive$Row;I)I"⟩, prog_3_method_8_code, 2, (some .int), tbFs_pair)
theorem lmFs_pair : LkM mFs_pair 2 := ⟨gw 7 (by decide +kernel) rfl, gw 473 (by decide +kernel) rfl, by decide, by decide, by decide +kernel⟩
theorem lcFs_pair : LkS mFs_pair 2 := ⟨lmFs_pair, gw 472 (by decide +kernel) rfl⟩
abbrev mFs_add : xM := (2, ⟨"DrillArchive$FileSet", "add", "(I)I"⟩, prog_3_method_2_code, 2, (some .int), tbFs_add)
theorem lmFs_add : LkM mFs_add 1 := ⟨gw 7 (by decide +kernel) rfl, gw 477 (by decide +kernel) rfl, by decide, by decide, by decide +kernel⟩
theorem lcFs_add : LkV mFs_add 1 := ⟨lmFs_add, gw 475 (by decide +kernel) rfl, gw 476 (by decide +kernel) rfl⟩
abbrev mDa_isRole : xM := (0, ⟨"DrillArchive", "isRole", "(I)Z"⟩, prog_1_method_26_code, 1, (some .boolean), tbDa_isRole)
theorem lmDa_isRole : LkM mDa_isRole 1 := ⟨gw 1 (by decide +kernel) rfl, gw 480 (by decide +kernel) rfl, by decide, by decide, by decide +kernel⟩
theorem lcDa_isRole : LkS mDa_isRole 1 := ⟨lmDa_isRole, gw 479 (by decide +kernel) rfl⟩
abbrev mFs_withRole : xM := (2, ⟨"DrillArchive$FileSet", "withRole", "(I)LDrillArchive$StoredFile;"⟩, prog_3_method_4_code, 4, (some (.object "DrillArchive$StoredFile")), tbFs_withRole)
theorem lmFs_withRole : LkM mFs_withRole 1 := ⟨gw 7 (by decide +kernel) rfl, gw 484 (by decide +kernel) rfl, by decide, by decide, by decide +kernel⟩
theorem lcFs_withRole : LkV mFs_withRole 1 := ⟨lmFs_withRole, gw 482 (by decide +kernel) rfl, gw 483 (by decide +kernel) rfl⟩
abbrev mFs_fileAt : xM := (2, ⟨"DrillArchive$FileSet", "fileAt", "(I)LDrillArchive$StoredFile;"⟩, prog_3_method_3_code, 2, (some (.object "DrillArchive$StoredFile")), tbFs_fileAt)
theorem lmFs_fileAt : LkM mFs_fileAt 1 := ⟨gw 7 (by decide +kernel) rfl, gw 488 (by decide +kernel) rfl, by decide, by decide, by decide +kernel⟩
theorem lcFs_fileAt : LkV mFs_fileAt 1 := ⟨lmFs_fileAt, gw 486 (by decide +kernel) rfl, gw 487 (by decide +kernel) rfl⟩
abbrev mSf_init : xM := (6, ⟨"DrillArchive$StoredFile", "<init>", "(I)V"⟩, prog_7_method_1_code, 2, none, tbSf_init)
theorem lmSf_init : LkM mSf_init 1 := ⟨gw 23 (by decide +kernel) rfl, gw 492 (by decide +kernel) rfl, by decide, by decide, by decide +kernel⟩
theorem lcSf_init : LkI mSf_init 1 := ⟨lmSf_init, gw 491 (by decide +kernel) rfl, rfl, rfl⟩
abbrev mSf_push : xM := (6, ⟨"DrillArchive$StoredFile", "push", "(I)Z"⟩, prog_7_method_2_code, 2, (some .boolean), tbSf_push)
theorem lmSf_push : LkM mSf_push 1 := ⟨gw 23 (by decide +kernel) rfl, gw 513 (by decide +kernel) rfl, by decide, by decide, by decide +kernel⟩
theorem lcSf_push : LkV mSf_push 1 := ⟨lmSf_push, gw 511 (by decide +kernel) rfl, gw 512 (by decide +kernel) rfl⟩
abbrev mDa_agrees : xM := (0, ⟨"DrillArchive", "agrees", "()Z"⟩, prog_1_method_17_code, 1, (some .boolean), tbDa_agrees)
theorem lmDa_agrees : LkM mDa_agrees 0 := ⟨gw 1 (by decide +kernel) rfl, gw 519 (by decide +kernel) rfl, by decide, by decide, by decide +kernel⟩
theorem lcDa_agrees : LkV mDa_agrees 0 := ⟨lmDa_agrees, gw 517 (by decide +kernel) rfl, gw 518 (by decide +kernel) rfl⟩
abbrev mDa_told : xM := (0, ⟨"DrillArchive", "told", "(I)I"⟩, prog_1_method_18_code, 5, (some .int), tbDa_told)
theorem lmDa_told : LkM mDa_told 1 := ⟨gw 1 (by decide +kernel) rfl, gw 523 (by decide +kernel) rfl, by decide, by decide, by decide +kernel⟩
theorem lcDa_told : LkV mDa_told 1 := ⟨lmDa_told, gw 521 (by decide +kernel) rfl, gw 522 (by decide +kernel) rfl⟩
abbrev mTw_textOf : xM := (8, ⟨"DrillArchive$TextWriter", "textOf", "(LDrillArchive$Drawing;II)LDrillArchive$Row;"⟩, prog_9_method_3_code, 6, (some (.object "DrillArchive$Row")), tbTw_textOf)
theorem lmTw_textOf : LkM mTw_textOf 3 := ⟨gw 4 (by decide +kernel) rfl, gw 528 (by decide +kernel) rfl, by decide, by decide, by decide +kernel⟩
theorem lcTw_textOf : LkV mTw_textOf 3 := ⟨lmTw_textOf, gw 526 (by decide +kernel) rfl, gw 527 (by decide +kernel) rfl⟩
abbrev mTw_writeHead : xM := (8, ⟨"DrillArchive$TextWriter", "writeHead", "(LDrillArchive$Drawing;)V"⟩, prog_9_method_4_code, 4, none, tbTw_writeHead)
theorem lmTw_writeHead : LkM mTw_writeHead 1 := ⟨gw 4 (by decide +kernel) rfl, gw 533 (by decide +kernel) rfl, by decide, by decide, by decide +kernel⟩
theorem lcTw_writeHead : LkV mTw_writeHead 1 := ⟨lmTw_writeHead, gw 532 (by decide +kernel) rfl, gwp 12 (by decide +kernel) rfl⟩
abbrev mRo_pushText : xM := (5, ⟨"DrillArchive$Row", "pushText", "(Ljava/lang/String;)V"⟩, prog_6_method_3_code, 3, none, tbRo_pushText)
theorem lmRo_pushText : LkM mRo_pushText 1 := ⟨gw 5 (by decide +kernel) rfl, gw 538 (by decide +kernel) rfl, by decide, by decide, by decide +kernel⟩
theorem lcRo_pushText : LkV mRo_pushText 1 := ⟨lmRo_pushText, gw 536 (by decide +kernel) rfl, gw 537 (by decide +kernel) rfl⟩
abbrev mRo_pushPart : xM := (5, ⟨"DrillArchive$Row", "pushPart", "(CI)V"⟩, prog_6_method_4_code, 5, none, tbRo_pushPart)
theorem lmRo_pushPart : LkM mRo_pushPart 2 := ⟨gw 5 (by decide +kernel) rfl, gw 545 (by decide +kernel) rfl, by decide, by decide, by decide +kernel⟩
theorem lcRo_pushPart : LkV mRo_pushPart 2 := ⟨lmRo_pushPart, gw 543 (by decide +kernel) rfl, gw 544 (by decide +kernel) rfl⟩
abbrev mJMa_abs : xM := (15, ⟨"java/lang/Math", "abs", "(I)I"⟩, prog_17_method_59_code, 1, (some .int), tbJMa_abs)
theorem lmJMa_abs : LkM mJMa_abs 1 := ⟨gw 16 (by decide +kernel) rfl, gw 548 (by decide +kernel) rfl, by decide, by decide, by decide +kernel⟩
theorem lcJMa_abs : LkS mJMa_abs 1 := ⟨lmJMa_abs, gw 547 (by decide +kernel) rfl⟩
abbrev mPl_plan : xM := (4, ⟨"DrillArchive$Planner", "plan", "(LDrillArchive$Drawing;LDrillArchive$Tool;)V"⟩, prog_5_method_2_code, 3, none, tbPl_plan)
theorem lmPl_plan : LkM mPl_plan 2 := ⟨gw 2 (by decide +kernel) rfl, gw 558 (by decide +kernel) rfl, by decide, by decide, by decide +kernel⟩
theorem lcPl_plan : LkV mPl_plan 2 := ⟨lmPl_plan, gw 556 (by decide +kernel) rfl, gw 557 (by decide +kernel) rfl⟩
abbrev mTo_beginPlan : xM := (9, ⟨"DrillArchive$Tool", "beginPlan", "()V"⟩, prog_10_method_3_code, 1, none, tbTo_beginPlan)
theorem lmTo_beginPlan : LkM mTo_beginPlan 0 := ⟨gw 13 (by decide +kernel) rfl, gw 562 (by decide +kernel) rfl, by decide, by decide, by decide +kernel⟩
theorem lcTo_beginPlan : LkV mTo_beginPlan 0 := ⟨lmTo_beginPlan, gw 560 (by decide +kernel) rfl, gw 561 (by decide +kernel) rfl⟩
abbrev mPl_gather : xM := (4, ⟨"DrillArchive$Planner", "gather", "(LDrillArchive$Drawing;LDrillArchive$Tool;)V"⟩, prog_5_method_3_code, 5, none, tbPl_gather)
theorem lmPl_gather : LkM mPl_gather 2 := ⟨gw 2 (by decide +kernel) rfl, gw 567 (by decide +kernel) rfl, by decide, by decide, by decide +kernel⟩
theorem lcPl_gather : LkV mPl_gather 2 := ⟨lmPl_gather, gw 566 (by decide +kernel) rfl, gwp 13 (by decide +kernel) rfl⟩
abbrev mDr_hitAt : xM := (1, ⟨"DrillArchive$Drawing", "hitAt", "(I)LDrillArchive$Hit;"⟩, prog_2_method_5_code, 2, (some (.object "DrillArchive$Hit")), tbDr_hitAt)
theorem lmDr_hitAt : LkM mDr_hitAt 1 := ⟨gw 6 (by decide +kernel) rfl, gw 572 (by decide +kernel) rfl, by decide, by decide, by decide +kernel⟩
theorem lcDr_hitAt : LkV mDr_hitAt 1 := ⟨lmDr_hitAt, gw 570 (by decide +kernel) rfl, gw 571 (by decide +kernel) rfl⟩
abbrev mPl_measureWays : xM := (4, ⟨"DrillArchive$Planner", "measureWays", "()V"⟩, prog_5_method_4_code, 3, none, tbPl_measureWays)
theorem lmPl_measureWays : LkM mPl_measureWays 0 := ⟨gw 2 (by decide +kernel) rfl, gw 576 (by decide +kernel) rfl, by decide, by decide, by decide +kernel⟩
theorem lcPl_measureWays : LkV mPl_measureWays 0 := ⟨lmPl_measureWays, gw 575 (by decide +kernel) rfl, gwp 14 (by decide +kernel) rfl⟩
abbrev mHi_wayTo : xM := (3, ⟨"DrillArchive$Hit", "wayTo", "(LDrillArchive$Hit;)I"⟩, prog_4_method_3_code, 2, (some .int), tbHi_wayTo)
theorem lmHi_wayTo : LkM mHi_wayTo 1 := ⟨gw 3 (by decide +kernel) rfl, gw 580 (by decide +kernel) rfl, by decide, by decide, by decide +kernel⟩
theorem lcHi_wayTo : LkV mHi_wayTo 1 := ⟨lmHi_wayTo, gw 578 (by decide +kernel) rfl, gw 579 (by decide +kernel) rfl⟩
abbrev mJMa_max : xM := (15, ⟨"java/lang/Math", "max", "(II)I"⟩, prog_17_method_65_code, 2, (some .int), tbJMa_max)
theorem lmJMa_max : LkM mJMa_max 2 := ⟨gw 16 (by decide +kernel) rfl, gw 584 (by decide +kernel) rfl, by decide, by decide, by decide +kernel⟩
theorem lcJMa_max : LkS mJMa_max 2 := ⟨lmJMa_max, gw 583 (by decide +kernel) rfl⟩
abbrev mPl_measureRest : xM := (4, ⟨"DrillArchive$Planner", "measureRest", "()V"⟩, prog_5_method_5_code, 3, none, tbPl_measureRest)
theorem lmPl_measureRest : LkM mPl_measureRest 0 := ⟨gw 2 (by decide +kernel) rfl, gw 588 (by decide +kernel) rfl, by decide, by decide, by decide +kernel⟩
theorem lcPl_measureRest : LkV mPl_measureRest 0 := ⟨lmPl_measureRest, gw 587 (by decide +kernel) rfl, gwp 15 (by decide +kernel) rfl⟩
abbrev mPl_bestNext : xM := (4, ⟨"DrillArchive$Planner", "bestNext", "(II)I"⟩, prog_5_method_7_code, 7, (some .int), tbPl_bestNext)
theorem lmPl_bestNext : LkM mPl_bestNext 2 := ⟨gw 2 (by decide +kernel) rfl, gw 592 (by decide +kernel) rfl, by decide, by decide, by decide +kernel⟩
theorem lcPl_bestNext : LkV mPl_bestNext 2 := ⟨lmPl_bestNext, gw 591 (by decide +kernel) rfl, gwp 16 (by decide +kernel) rfl⟩
abbrev mPl_planLeast : xM := (4, ⟨"DrillArchive$Planner", "planLeast", "(LDrillArchive$Tool;)V"⟩, prog_5_method_6_code, 6, none, tbPl_planLeast)
theorem lmPl_planLeast : LkM mPl_planLeast 1 := ⟨gw 2 (by decide +kernel) rfl, gw 596 (by decide +kernel) rfl, by decide, by decide, by decide +kernel⟩
theorem lcPl_planLeast : LkV mPl_planLeast 1 := ⟨lmPl_planLeast, gw 595 (by decide +kernel) rfl, gwp 17 (by decide +kernel) rfl⟩
abbrev mTo_planNext : xM := (9, ⟨"DrillArchive$Tool", "planNext", "(II)V"⟩, prog_10_method_4_code, 3, none, tbTo_planNext)
theorem lmTo_planNext : LkM mTo_planNext 2 := ⟨gw 13 (by decide +kernel) rfl, gw 600 (by decide +kernel) rfl, by decide, by decide, by decide +kernel⟩
theorem lcTo_planNext : LkV mTo_planNext 2 := ⟨lmTo_planNext, gw 598 (by decide +kernel) rfl, gw 599 (by decide +kernel) rfl⟩
abbrev mPl_planNearest : xM := (4, ⟨"DrillArchive$Planner", "planNearest", "(LDrillArchive$Tool;)V"⟩, prog_5_method_8_code, 5, none, tbPl_planNearest)
theorem lmPl_planNearest : LkM mPl_planNearest 1 := ⟨gw 2 (by decide +kernel) rfl, gw 604 (by decide +kernel) rfl, by decide, by decide, by decide +kernel⟩
theorem lcPl_planNearest : LkV mPl_planNearest 1 := ⟨lmPl_planNearest, gw 603 (by decide +kernel) rfl, gwp 18 (by decide +kernel) rfl⟩
abbrev mPl_nearest : xM := (4, ⟨"DrillArchive$Planner", "nearest", "(LDrillArchive$Hit;)I"⟩, prog_5_method_9_code, 5, (some .int), tbPl_nearest)
theorem lmPl_nearest : LkM mPl_nearest 1 := ⟨gw 2 (by decide +kernel) rfl, gw 608 (by decide +kernel) rfl, by decide, by decide, by decide +kernel⟩
theorem lcPl_nearest : LkV mPl_nearest 1 := ⟨lmPl_nearest, gw 607 (by decide +kernel) rfl, gwp 19 (by decide +kernel) rfl⟩
abbrev mTw_writeHits : xM := (8, ⟨"DrillArchive$TextWriter", "writeHits", "(LDrillArchive$Drawing;LDrillArchive$Tool;I)V"⟩, prog_9_method_5_code, 7, none, tbTw_writeHits)
theorem lmTw_writeHits : LkM mTw_writeHits 3 := ⟨gw 4 (by decide +kernel) rfl, gw 612 (by decide +kernel) rfl, by decide, by decide, by decide +kernel⟩
theorem lcTw_writeHits : LkV mTw_writeHits 3 := ⟨lmTw_writeHits, gw 611 (by decide +kernel) rfl, gwp 20 (by decide +kernel) rfl⟩
abbrev mTw_writeHit : xM := (8, ⟨"DrillArchive$TextWriter", "writeHit", "(LDrillArchive$Hit;)V"⟩, prog_9_method_6_code, 2, none, tbTw_writeHit)
theorem lmTw_writeHit : LkM mTw_writeHit 1 := ⟨gw 4 (by decide +kernel) rfl, gw 618 (by decide +kernel) rfl, by decide, by decide, by decide +kernel⟩
theorem lcTw_writeHit : LkV mTw_writeHit 1 := ⟨lmTw_writeHit, gw 617 (by decide +kernel) rfl, gwp 21 (by decide +kernel) rfl⟩
abbrev mHi_isSlot : xM := (3, ⟨"DrillArchive$Hit", "isSlot", "()Z"⟩, prog_4_method_2_code, 1, (some .boolean), tbHi_isSlot)
theorem lmHi_isSlot : LkM mHi_isSlot 0 := ⟨gw 3 (by decide +kernel) rfl, gw 622 (by decide +kernel) rfl, by decide, by decide, by decide +kernel⟩
theorem lcHi_isSlot : LkV mHi_isSlot 0 := ⟨lmHi_isSlot, gw 620 (by decide +kernel) rfl, gw 621 (by decide +kernel) rfl⟩
abbrev mRo_same : xM := (5, ⟨"DrillArchive$Row", "same", "(LDrillArchive$Row;)Z"⟩, prog_6_method_6_code, 3, (some .boolean), tbRo_same)
theorem lmRo_same : LkM mRo_same 1 := ⟨gw 5 (by decide +kernel) rfl, gw 628 (by decide +kernel) rfl, by decide, by decide, by decide +kernel⟩
theorem lcRo_same : LkV mRo_same 1 := ⟨lmRo_same, gw 626 (by decide +kernel) rfl, gw 627 (by decide +kernel) rfl⟩
abbrev mDa_clear : xM := (0, ⟨"DrillArchive", "clear", "()V"⟩, prog_1_method_20_code, 1, none, tbDa_clear)
theorem lmDa_clear : LkM mDa_clear 0 := ⟨gw 1 (by decide +kernel) rfl, gw 634 (by decide +kernel) rfl, by decide, by decide, by decide +kernel⟩
theorem lcDa_clear : LkV mDa_clear 0 := ⟨lmDa_clear, gw 632 (by decide +kernel) rfl, gw 633 (by decide +kernel) rfl⟩
abbrev mLa_tool : xM := (13, ⟨"DrillArchiveLaw", "tool", "(LDrillArchive;JZ[J)I"⟩, method_3_code, 6, (some .int), tbLa_tool)
theorem lwLa_tool : Cond.codeWith mLa_tool.2.1 method_3_code 6 (some .int) [((0 : Nat), (11 : Nat), (14 : Nat), (13 : Nat))] ∈ gTB := gw 637 (by decide +kernel) rfl
abbrev mDa_tool : xM := (0, ⟨"DrillArchive", "tool", "(JZ)I"⟩, prog_1_method_2_code, 4, (some .int), tbDa_tool)
theorem lmDa_tool : LkM mDa_tool 2 := ⟨gw 1 (by decide +kernel) rfl, gw 642 (by decide +kernel) rfl, by decide, by decide, by decide +kernel⟩
theorem lcDa_tool : LkV mDa_tool 2 := ⟨lmDa_tool, gw 640 (by decide +kernel) rfl, gw 641 (by decide +kernel) rfl⟩
abbrev mJTh_init : xM := (18, ⟨"java/lang/Throwable", "<init>", "()V"⟩, prog_23_method_1_code, 1, none, tbJTh_init)
theorem lmJTh_init : LkM mJTh_init 0 := ⟨gw 9 (by decide +kernel) rfl, gw 668 (by decide +kernel) rfl, by decide, by decide, by decide +kernel⟩
theorem lcJTh_init : LkI mJTh_init 0 := ⟨lmJTh_init, gw 667 (by decide +kernel) rfl, rfl, rfl⟩
abbrev mJIa_init : xM := (11, ⟨"java/lang/IllegalArgumentException", "<init>", "(Ljava/lang/String;)V"⟩, prog_15_method_2_code, 2, none, tbJIa_init)
theorem lmJIa_init : LkM mJIa_init 1 := ⟨gw 12 (by decide +kernel) rfl, gw 687 (by decide +kernel) rfl, by decide, by decide, by decide +kernel⟩
theorem lcJIa_init : LkI mJIa_init 1 := ⟨lmJIa_init, gw 686 (by decide +kernel) rfl, rfl, rfl⟩
abbrev mJRe_init : xM := (21, ⟨"java/lang/RuntimeException", "<init>", "(Ljava/lang/String;)V"⟩, prog_18_method_2_code, 2, none, tbJRe_init)
theorem lmJRe_init : LkM mJRe_init 1 := ⟨gw 11 (by decide +kernel) rfl, gw 690 (by decide +kernel) rfl, by decide, by decide, by decide +kernel⟩
theorem lcJRe_init : LkI mJRe_init 1 := ⟨lmJRe_init, gw 689 (by decide +kernel) rfl, rfl, rfl⟩
abbrev mJEx_init : xM := (20, ⟨"java/lang/Exception", "<init>", "(Ljava/lang/String;)V"⟩, prog_14_method_2_code, 2, none, tbJEx_init)
theorem lmJEx_init : LkM mJEx_init 1 := ⟨gw 10 (by decide +kernel) rfl, gw 693 (by decide +kernel) rfl, by decide, by decide, by decide +kernel⟩
theorem lcJEx_init : LkI mJEx_init 1 := ⟨lmJEx_init, gw 692 (by decide +kernel) rfl, rfl, rfl⟩
abbrev mJTh_init2 : xM := (18, ⟨"java/lang/Throwable", "<init>", "(Ljava/lang/String;)V"⟩, prog_23_method_2_code, 2, none, tbJTh_init2)
theorem lmJTh_init2 : LkM mJTh_init2 1 := ⟨gw 9 (by decide +kernel) rfl, gw 696 (by decide +kernel) rfl, by decide, by decide, by decide +kernel⟩
theorem lcJTh_init2 : LkI mJTh_init2 1 := ⟨lmJTh_init2, gw 695 (by decide +kernel) rfl, rfl, rfl⟩
abbrev mLa_hole : xM := (13, ⟨"DrillArchiveLaw", "hole", "(LDrillArchive;IJJII[J)I"⟩, method_4_code, 10, (some .int), tbLa_hole)
theorem lwLa_hole : Cond.codeWith mLa_hole.2.1 method_4_code 10 (some .int) [((0 : Nat), (17 : Nat), (20 : Nat), (19 : Nat)), ((0 : Nat), (17 : Nat), (24 : Nat), (13 : Nat))] ∈ gTB := gw 713 (by decide +kernel) rfl
abbrev mDa_hole : xM := (0, ⟨"DrillArchive", "hole", "(IJJII)I"⟩, prog_1_method_3_code, 8, (some .int), tbDa_hole)
theorem lmDa_hole : LkM mDa_hole 5 := ⟨gw 1 (by decide +kernel) rfl, gw 718 (by decide +kernel) rfl, by decide, by decide, by decide +kernel⟩
theorem lcDa_hole : LkV mDa_hole 5 := ⟨lmDa_hole, gw 716 (by decide +kernel) rfl, gw 717 (by decide +kernel) rfl⟩
abbrev mDa_knownTool : xM := (0, ⟨"DrillArchive", "knownTool", "(I)LDrillArchive$Tool;"⟩, prog_1_method_21_code, 3, (some (.object "DrillArchive$Tool")), tbDa_knownTool)
theorem lmDa_knownTool : LkM mDa_knownTool 1 := ⟨gw 1 (by decide +kernel) rfl, gw 722 (by decide +kernel) rfl, by decide, by decide, by decide +kernel⟩
theorem lcDa_knownTool : LkV mDa_knownTool 1 := ⟨lmDa_knownTool, gw 721 (by decide +kernel) rfl, gwp 23 (by decide +kernel) rfl⟩
abbrev mJIo_init : xM := (12, ⟨"java/lang/IndexOutOfBoundsException", "<init>", "(Ljava/lang/String;)V"⟩, prog_16_method_2_code, 2, none, tbJIo_init)
theorem lmJIo_init : LkM mJIo_init 1 := ⟨gw 14 (by decide +kernel) rfl, gw 736 (by decide +kernel) rfl, by decide, by decide, by decide +kernel⟩
theorem lcJIo_init : LkI mJIo_init 1 := ⟨lmJIo_init, gw 735 (by decide +kernel) rfl, rfl, rfl⟩
abbrev mLa_slot : xM := (13, ⟨"DrillArchiveLaw", "slot", "(LDrillArchive;IJJJJ[J)I"⟩, method_5_code, 12, (some .int), tbLa_slot)
theorem lwLa_slot : Cond.codeWith mLa_slot.2.1 method_5_code 12 (some .int) [((0 : Nat), (17 : Nat), (20 : Nat), (19 : Nat)), ((0 : Nat), (17 : Nat), (24 : Nat), (13 : Nat))] ∈ gTB := gw 749 (by decide +kernel) rfl
abbrev mDa_slot : xM := (0, ⟨"DrillArchive", "slot", "(IJJJJ)I"⟩, prog_1_method_4_code, 10, (some .int), tbDa_slot)
theorem lmDa_slot : LkM mDa_slot 5 := ⟨gw 1 (by decide +kernel) rfl, gw 753 (by decide +kernel) rfl, by decide, by decide, by decide +kernel⟩
theorem lcDa_slot : LkV mDa_slot 5 := ⟨lmDa_slot, gw 751 (by decide +kernel) rfl, gw 752 (by decide +kernel) rfl⟩
abbrev mLa_write : xM := (13, ⟨"DrillArchiveLaw", "write", "(LDrillArchive;II[J)I"⟩, method_6_code, 5, (some .int), tbLa_write)
theorem lwLa_write : Cond.codeWith mLa_write.2.1 method_6_code 5 (some .int) [((0 : Nat), (10 : Nat), (13 : Nat), (19 : Nat))] ∈ gTB := gw 757 (by decide +kernel) rfl
abbrev mDa_write : xM := (0, ⟨"DrillArchive", "write", "(II)I"⟩, prog_1_method_5_code, 5, (some .int), tbDa_write)
theorem lmDa_write : LkM mDa_write 2 := ⟨gw 1 (by decide +kernel) rfl, gw 761 (by decide +kernel) rfl, by decide, by decide, by decide +kernel⟩
theorem lcDa_write : LkV mDa_write 2 := ⟨lmDa_write, gw 759 (by decide +kernel) rfl, gw 760 (by decide +kernel) rfl⟩
abbrev mLa_at : xM := (13, ⟨"DrillArchiveLaw", "at", "(LDrillArchive;II[J)I"⟩, method_7_code, 5, (some .int), tbLa_at)
theorem lwLa_at : Cond.codeWith mLa_at.2.1 method_7_code 5 (some .int) [((0 : Nat), (9 : Nat), (12 : Nat), (19 : Nat))] ∈ gTB := gw 766 (by decide +kernel) rfl
abbrev mDa_at : xM := (0, ⟨"DrillArchive", "at", "(II)J"⟩, prog_1_method_8_code, 4, (some .long), tbDa_at)
theorem lmDa_at : LkM mDa_at 2 := ⟨gw 1 (by decide +kernel) rfl, gw 770 (by decide +kernel) rfl, by decide, by decide, by decide +kernel⟩
theorem lcDa_at : LkV mDa_at 2 := ⟨lmDa_at, gw 768 (by decide +kernel) rfl, gw 769 (by decide +kernel) rfl⟩
abbrev mHi_part : xM := (3, ⟨"DrillArchive$Hit", "part", "(I)J"⟩, prog_4_method_4_code, 2, (some .long), tbHi_part)
theorem lmHi_part : LkM mHi_part 1 := ⟨gw 3 (by decide +kernel) rfl, gw 776 (by decide +kernel) rfl, by decide, by decide, by decide +kernel⟩
theorem lcHi_part : LkV mHi_part 1 := ⟨lmHi_part, gw 774 (by decide +kernel) rfl, gw 775 (by decide +kernel) rfl⟩
abbrev mLa_order : xM := (13, ⟨"DrillArchiveLaw", "order", "(LDrillArchive;II[J)I"⟩, method_8_code, 5, (some .int), tbLa_order)
theorem lwLa_order : Cond.codeWith mLa_order.2.1 method_8_code 5 (some .int) [((0 : Nat), (10 : Nat), (13 : Nat), (19 : Nat))] ∈ gTB := gw 780 (by decide +kernel) rfl
abbrev mDa_order : xM := (0, ⟨"DrillArchive", "order", "(II)I"⟩, prog_1_method_9_code, 4, (some .int), tbDa_order)
theorem lmDa_order : LkM mDa_order 2 := ⟨gw 1 (by decide +kernel) rfl, gw 784 (by decide +kernel) rfl, by decide, by decide, by decide +kernel⟩
theorem lcDa_order : LkV mDa_order 2 := ⟨lmDa_order, gw 782 (by decide +kernel) rfl, gw 783 (by decide +kernel) rfl⟩
abbrev mLa_travel : xM := (13, ⟨"DrillArchiveLaw", "travel", "(LDrillArchive;I[J)I"⟩, method_9_code, 4, (some .int), tbLa_travel)
theorem lwLa_travel : Cond.codeWith mLa_travel.2.1 method_9_code 4 (some .int) [((0 : Nat), (8 : Nat), (11 : Nat), (19 : Nat))] ∈ gTB := gw 788 (by decide +kernel) rfl
abbrev mDa_travel : xM := (0, ⟨"DrillArchive", "travel", "(I)J"⟩, prog_1_method_10_code, 3, (some .long), tbDa_travel)
theorem lmDa_travel : LkM mDa_travel 1 := ⟨gw 1 (by decide +kernel) rfl, gw 792 (by decide +kernel) rfl, by decide, by decide, by decide +kernel⟩
theorem lcDa_travel : LkV mDa_travel 1 := ⟨lmDa_travel, gw 790 (by decide +kernel) rfl, gw 791 (by decide +kernel) rfl⟩
abbrev mLa_proved : xM := (13, ⟨"DrillArchiveLaw", "proved", "(LDrillArchive;I[J)I"⟩, method_10_code, 4, (some .int), tbLa_proved)
theorem lwLa_proved : Cond.codeWith mLa_proved.2.1 method_10_code 4 (some .int) [((0 : Nat), (16 : Nat), (19 : Nat), (19 : Nat))] ∈ gTB := gw 795 (by decide +kernel) rfl
abbrev mDa_proved : xM := (0, ⟨"DrillArchive", "proved", "(I)Z"⟩, prog_1_method_11_code, 2, (some .boolean), tbDa_proved)
theorem lmDa_proved : LkM mDa_proved 1 := ⟨gw 1 (by decide +kernel) rfl, gw 799 (by decide +kernel) rfl, by decide, by decide, by decide +kernel⟩
theorem lcDa_proved : LkV mDa_proved 1 := ⟨lmDa_proved, gw 797 (by decide +kernel) rfl, gw 798 (by decide +kernel) rfl⟩
abbrev mLa_file : xM := (13, ⟨"DrillArchiveLaw", "file", "(LDrillArchive;I[J)I"⟩, method_11_code, 4, (some .int), tbLa_file)
theorem lwLa_file : Cond.codeWith mLa_file.2.1 method_11_code 4 (some .int) [((0 : Nat), (9 : Nat), (12 : Nat), (13 : Nat))] ∈ gTB := gw 802 (by decide +kernel) rfl
abbrev mDa_file : xM := (0, ⟨"DrillArchive", "file", "(I)I"⟩, prog_1_method_12_code, 2, (some .int), tbDa_file)
theorem lmDa_file : LkM mDa_file 1 := ⟨gw 1 (by decide +kernel) rfl, gw 806 (by decide +kernel) rfl, by decide, by decide, by decide +kernel⟩
theorem lcDa_file : LkV mDa_file 1 := ⟨lmDa_file, gw 804 (by decide +kernel) rfl, gw 805 (by decide +kernel) rfl⟩
abbrev mLa_byteOf : xM := (13, ⟨"DrillArchiveLaw", "byteOf", "(LDrillArchive;II[J)I"⟩, method_12_code, 5, (some .int), tbLa_byteOf)
theorem lwLa_byteOf : Cond.codeWith mLa_byteOf.2.1 method_12_code 5 (some .int) [((0 : Nat), (17 : Nat), (20 : Nat), (19 : Nat)), ((0 : Nat), (17 : Nat), (24 : Nat), (13 : Nat))] ∈ gTB := gw 812 (by decide +kernel) rfl
abbrev mDa_byteOf : xM := (0, ⟨"DrillArchive", "byteOf", "(II)Z"⟩, prog_1_method_13_code, 4, (some .boolean), tbDa_byteOf)
theorem lmDa_byteOf : LkM mDa_byteOf 2 := ⟨gw 1 (by decide +kernel) rfl, gw 816 (by decide +kernel) rfl, by decide, by decide, by decide +kernel⟩
theorem lcDa_byteOf : LkV mDa_byteOf 2 := ⟨lmDa_byteOf, gw 814 (by decide +kernel) rfl, gw 815 (by decide +kernel) rfl⟩
abbrev mDa_knownFile : xM := (0, ⟨"DrillArchive", "knownFile", "(I)LDrillArchive$StoredFile;"⟩, prog_1_method_22_code, 3, (some (.object "DrillArchive$StoredFile")), tbDa_knownFile)
theorem lmDa_knownFile : LkM mDa_knownFile 1 := ⟨gw 1 (by decide +kernel) rfl, gw 820 (by decide +kernel) rfl, by decide, by decide, by decide +kernel⟩
theorem lcDa_knownFile : LkV mDa_knownFile 1 := ⟨lmDa_knownFile, gw 819 (by decide +kernel) rfl, gwp 24 (by decide +kernel) rfl⟩
abbrev mLa_archive : xM := (13, ⟨"DrillArchiveLaw", "archive", "(LDrillArchive;I[J)I"⟩, method_13_code, 4, (some .int), tbLa_archive)
theorem lwLa_archive : Cond.codeWith mLa_archive.2.1 method_13_code 4 (some .int) [((0 : Nat), (9 : Nat), (12 : Nat), (19 : Nat))] ∈ gTB := gw 827 (by decide +kernel) rfl
abbrev mDa_archive : xM := (0, ⟨"DrillArchive", "archive", "(I)I"⟩, prog_1_method_14_code, 2, (some .int), tbDa_archive)
theorem lmDa_archive : LkM mDa_archive 1 := ⟨gw 1 (by decide +kernel) rfl, gw 831 (by decide +kernel) rfl, by decide, by decide, by decide +kernel⟩
theorem lcDa_archive : LkV mDa_archive 1 := ⟨lmDa_archive, gw 829 (by decide +kernel) rfl, gw 830 (by decide +kernel) rfl⟩
abbrev mFs_joined : xM := (2, ⟨"DrillArchive$FileSet", "joined", "(I)I"⟩, prog_3_method_5_code, 5, (some .int), tbFs_joined)
theorem lmFs_joined : LkM mFs_joined 1 := ⟨gw 7 (by decide +kernel) rfl, gw 836 (by decide +kernel) rfl, by decide, by decide, by decide +kernel⟩
theorem lcFs_joined : LkV mFs_joined 1 := ⟨lmFs_joined, gw 834 (by decide +kernel) rfl, gw 835 (by decide +kernel) rfl⟩
abbrev mSf_joinedSize : xM := (6, ⟨"DrillArchive$StoredFile", "joinedSize", "()I"⟩, prog_7_method_3_code, 1, (some .int), tbSf_joinedSize)
theorem lmSf_joinedSize : LkM mSf_joinedSize 0 := ⟨gw 23 (by decide +kernel) rfl, gw 840 (by decide +kernel) rfl, by decide, by decide, by decide +kernel⟩
theorem lcSf_joinedSize : LkV mSf_joinedSize 0 := ⟨lmSf_joinedSize, gw 838 (by decide +kernel) rfl, gw 839 (by decide +kernel) rfl⟩
abbrev mSf_joined : xM := (6, ⟨"DrillArchive$StoredFile", "joined", "(I)I"⟩, prog_7_method_4_code, 4, (some .int), tbSf_joined)
theorem lmSf_joined : LkM mSf_joined 1 := ⟨gw 23 (by decide +kernel) rfl, gw 844 (by decide +kernel) rfl, by decide, by decide, by decide +kernel⟩
theorem lcSf_joined : LkV mSf_joined 1 := ⟨lmSf_joined, gw 842 (by decide +kernel) rfl, gw 843 (by decide +kernel) rfl⟩
abbrev mLa_sum : xM := (13, ⟨"DrillArchiveLaw", "sum", "(LDrillArchive;I[J)I"⟩, method_14_code, 4, (some .int), tbLa_sum)
theorem lwLa_sum : Cond.codeWith mLa_sum.2.1 method_14_code 4 (some .int) [((0 : Nat), (8 : Nat), (11 : Nat), (19 : Nat))] ∈ gTB := gw 848 (by decide +kernel) rfl
abbrev mDa_sum : xM := (0, ⟨"DrillArchive", "sum", "(I)J"⟩, prog_1_method_19_code, 2, (some .long), tbDa_sum)
theorem lmDa_sum : LkM mDa_sum 1 := ⟨gw 1 (by decide +kernel) rfl, gw 852 (by decide +kernel) rfl, by decide, by decide, by decide +kernel⟩
theorem lcDa_sum : LkV mDa_sum 1 := ⟨lmDa_sum, gw 850 (by decide +kernel) rfl, gw 851 (by decide +kernel) rfl⟩
abbrev mMo_init : xM := (10, ⟨"DrillArchiveModel", "<init>", "()V"⟩, prog_12_method_1_code, 1, none, tbMo_init)
theorem lmMo_init : LkM mMo_init 0 := ⟨gw 8 (by decide +kernel) rfl, gw 857 (by decide +kernel) rfl, by decide, by decide, by decide +kernel⟩
theorem lcMo_init : LkI mMo_init 0 := ⟨lmMo_init, gw 856 (by decide +kernel) rfl, rfl, rfl⟩
abbrev mMo_thrown : xM := (10, ⟨"DrillArchiveModel", "thrown", "()I"⟩, prog_12_method_2_code, 1, (some .int), tbMo_thrown)
theorem lmMo_thrown : LkM mMo_thrown 0 := ⟨gw 8 (by decide +kernel) rfl, gw 981 (by decide +kernel) rfl, by decide, by decide, by decide +kernel⟩
theorem lcMo_thrown : LkV mMo_thrown 0 := ⟨lmMo_thrown, gw 979 (by decide +kernel) rfl, gw 980 (by decide +kernel) rfl⟩
abbrev mMo_clear : xM := (10, ⟨"DrillArchiveModel", "clear", "()V"⟩, prog_12_method_3_code, 1, none, tbMo_clear)
theorem lmMo_clear : LkM mMo_clear 0 := ⟨gw 8 (by decide +kernel) rfl, gw 985 (by decide +kernel) rfl, by decide, by decide, by decide +kernel⟩
theorem lcMo_clear : LkV mMo_clear 0 := ⟨lmMo_clear, gw 983 (by decide +kernel) rfl, gw 984 (by decide +kernel) rfl⟩
abbrev mMo_tool : xM := (10, ⟨"DrillArchiveModel", "tool", "(JZ)I"⟩, prog_12_method_9_code, 4, (some .int), tbMo_tool)
theorem lmMo_tool : LkM mMo_tool 2 := ⟨gw 8 (by decide +kernel) rfl, gw 989 (by decide +kernel) rfl, by decide, by decide, by decide +kernel⟩
theorem lcMo_tool : LkV mMo_tool 2 := ⟨lmMo_tool, gw 987 (by decide +kernel) rfl, gw 988 (by decide +kernel) rfl⟩
abbrev mMo_isDiameter : xM := (10, ⟨"DrillArchiveModel", "isDiameter", "(J)Z"⟩, prog_12_method_7_code, 2, (some .boolean), tbMo_isDiameter)
theorem lmMo_isDiameter : LkM mMo_isDiameter 1 := ⟨gw 8 (by decide +kernel) rfl, gw 992 (by decide +kernel) rfl, by decide, by decide, by decide +kernel⟩
theorem lcMo_isDiameter : LkS mMo_isDiameter 1 := ⟨lmMo_isDiameter, gw 991 (by decide +kernel) rfl⟩
abbrev mMo_addTool : xM := (10, ⟨"DrillArchiveModel", "addTool", "(IJZ)I"⟩, prog_12_method_8_code, 5, (some .int), tbMo_addTool)
theorem lmMo_addTool : LkM mMo_addTool 3 := ⟨gw 8 (by decide +kernel) rfl, gw 997 (by decide +kernel) rfl, by decide, by decide, by decide +kernel⟩
theorem lcMo_addTool : LkV mMo_addTool 3 := ⟨lmMo_addTool, gw 996 (by decide +kernel) rfl, gwp 25 (by decide +kernel) rfl⟩
abbrev mMo_hole : xM := (10, ⟨"DrillArchiveModel", "hole", "(IJJII)I"⟩, prog_12_method_11_code, 8, (some .int), tbMo_hole)
theorem lmMo_hole : LkM mMo_hole 5 := ⟨gw 8 (by decide +kernel) rfl, gw 1001 (by decide +kernel) rfl, by decide, by decide, by decide +kernel⟩
theorem lcMo_hole : LkV mMo_hole 5 := ⟨lmMo_hole, gw 999 (by decide +kernel) rfl, gw 1000 (by decide +kernel) rfl⟩
abbrev mMo_isTool : xM := (10, ⟨"DrillArchiveModel", "isTool", "(I)Z"⟩, prog_12_method_6_code, 2, (some .boolean), tbMo_isTool)
theorem lmMo_isTool : LkM mMo_isTool 1 := ⟨gw 8 (by decide +kernel) rfl, gw 1005 (by decide +kernel) rfl, by decide, by decide, by decide +kernel⟩
theorem lcMo_isTool : LkV mMo_isTool 1 := ⟨lmMo_isTool, gw 1004 (by decide +kernel) rfl, gwp 26 (by decide +kernel) rfl⟩
abbrev mMo_isLayer : xM := (10, ⟨"DrillArchiveModel", "isLayer", "(J)Z"⟩, prog_12_method_5_code, 2, (some .boolean), tbMo_isLayer)
theorem lmMo_isLayer : LkM mMo_isLayer 1 := ⟨gw 8 (by decide +kernel) rfl, gw 1008 (by decide +kernel) rfl, by decide, by decide, by decide +kernel⟩
theorem lcMo_isLayer : LkS mMo_isLayer 1 := ⟨lmMo_isLayer, gw 1007 (by decide +kernel) rfl⟩
abbrev mMo_isPlace : xM := (10, ⟨"DrillArchiveModel", "isPlace", "(JJ)Z"⟩, prog_12_method_4_code, 4, (some .boolean), tbMo_isPlace)
theorem lmMo_isPlace : LkM mMo_isPlace 2 := ⟨gw 8 (by decide +kernel) rfl, gw 1012 (by decide +kernel) rfl, by decide, by decide, by decide +kernel⟩
theorem lcMo_isPlace : LkS mMo_isPlace 2 := ⟨lmMo_isPlace, gw 1011 (by decide +kernel) rfl⟩
abbrev mMo_addHit : xM := (10, ⟨"DrillArchiveModel", "addHit", "(IIJJJJIIZ)I"⟩, prog_12_method_10_code, 15, (some .int), tbMo_addHit)
theorem lmMo_addHit : LkM mMo_addHit 9 := ⟨gw 8 (by decide +kernel) rfl, gw 1018 (by decide +kernel) rfl, by decide, by decide, by decide +kernel⟩
theorem lcMo_addHit : LkV mMo_addHit 9 := ⟨lmMo_addHit, gw 1017 (by decide +kernel) rfl, gwp 27 (by decide +kernel) rfl⟩
abbrev mMo_slot : xM := (10, ⟨"DrillArchiveModel", "slot", "(IJJJJ)I"⟩, prog_12_method_12_code, 11, (some .int), tbMo_slot)
theorem lmMo_slot : LkM mMo_slot 5 := ⟨gw 8 (by decide +kernel) rfl, gw 1022 (by decide +kernel) rfl, by decide, by decide, by decide +kernel⟩
theorem lcMo_slot : LkV mMo_slot 5 := ⟨lmMo_slot, gw 1020 (by decide +kernel) rfl, gw 1021 (by decide +kernel) rfl⟩
abbrev mMo_at : xM := (10, ⟨"DrillArchiveModel", "at", "(II)J"⟩, prog_12_method_13_code, 3, (some .long), tbMo_at)
theorem lmMo_at : LkM mMo_at 2 := ⟨gw 8 (by decide +kernel) rfl, gw 1026 (by decide +kernel) rfl, by decide, by decide, by decide +kernel⟩
theorem lcMo_at : LkV mMo_at 2 := ⟨lmMo_at, gw 1024 (by decide +kernel) rfl, gw 1025 (by decide +kernel) rfl⟩
abbrev mMo_order : xM := (10, ⟨"DrillArchiveModel", "order", "(II)I"⟩, prog_12_method_21_code, 3, (some .int), tbMo_order)
theorem lmMo_order : LkM mMo_order 2 := ⟨gw 8 (by decide +kernel) rfl, gw 1030 (by decide +kernel) rfl, by decide, by decide, by decide +kernel⟩
theorem lcMo_order : LkV mMo_order 2 := ⟨lmMo_order, gw 1028 (by decide +kernel) rfl, gw 1029 (by decide +kernel) rfl⟩
abbrev mMo_findOrder : xM := (10, ⟨"DrillArchiveModel", "findOrder", "(I)V"⟩, prog_12_method_20_code, 2, none, tbMo_findOrder)
theorem lmMo_findOrder : LkM mMo_findOrder 1 := ⟨gw 8 (by decide +kernel) rfl, gw 1034 (by decide +kernel) rfl, by decide, by decide, by decide +kernel⟩
theorem lcMo_findOrder : LkV mMo_findOrder 1 := ⟨lmMo_findOrder, gw 1033 (by decide +kernel) rfl, gwp 28 (by decide +kernel) rfl⟩
abbrev mMo_collect : xM := (10, ⟨"DrillArchiveModel", "collect", "(I)V"⟩, prog_12_method_17_code, 3, none, tbMo_collect)
theorem lmMo_collect : LkM mMo_collect 1 := ⟨gw 8 (by decide +kernel) rfl, gw 1038 (by decide +kernel) rfl, by decide, by decide, by decide +kernel⟩
theorem lcMo_collect : LkV mMo_collect 1 := ⟨lmMo_collect, gw 1037 (by decide +kernel) rfl, gwp 29 (by decide +kernel) rfl⟩
abbrev mMo_orderNearest : xM := (10, ⟨"DrillArchiveModel", "orderNearest", "()V"⟩, prog_12_method_19_code, 5, none, tbMo_orderNearest)
theorem lmMo_orderNearest : LkM mMo_orderNearest 0 := ⟨gw 8 (by decide +kernel) rfl, gw 1042 (by decide +kernel) rfl, by decide, by decide, by decide +kernel⟩
theorem lcMo_orderNearest : LkV mMo_orderNearest 0 := ⟨lmMo_orderNearest, gw 1041 (by decide +kernel) rfl, gwp 30 (by decide +kernel) rfl⟩
abbrev mMo_way : xM := (10, ⟨"DrillArchiveModel", "way", "(II)J"⟩, prog_12_method_16_code, 3, (some .long), tbMo_way)
theorem lmMo_way : LkM mMo_way 2 := ⟨gw 8 (by decide +kernel) rfl, gw 1046 (by decide +kernel) rfl, by decide, by decide, by decide +kernel⟩
theorem lcMo_way : LkV mMo_way 2 := ⟨lmMo_way, gw 1045 (by decide +kernel) rfl, gwp 31 (by decide +kernel) rfl⟩
abbrev mMo_wayOf : xM := (10, ⟨"DrillArchiveModel", "wayOf", "(JJJJ)J"⟩, prog_12_method_15_code, 12, (some .long), tbMo_wayOf)
theorem lmMo_wayOf : LkM mMo_wayOf 4 := ⟨gw 8 (by decide +kernel) rfl, gw 1049 (by decide +kernel) rfl, by decide, by decide, by decide +kernel⟩
theorem lcMo_wayOf : LkS mMo_wayOf 4 := ⟨lmMo_wayOf, gw 1048 (by decide +kernel) rfl⟩
abbrev mMo_size : xM := (10, ⟨"DrillArchiveModel", "size", "(J)J"⟩, prog_12_method_14_code, 2, (some .long), tbMo_size)
theorem lmMo_size : LkM mMo_size 1 := ⟨gw 8 (by decide +kernel) rfl, gw 1052 (by decide +kernel) rfl, by decide, by decide, by decide +kernel⟩
theorem lcMo_size : LkS mMo_size 1 := ⟨lmMo_size, gw 1051 (by decide +kernel) rfl⟩
abbrev mMo_orderExactly : xM := (10, ⟨"DrillArchiveModel", "orderExactly", "()V"⟩, prog_12_method_18_code, 11, none, tbMo_orderExactly)
theorem lmMo_orderExactly : LkM mMo_orderExactly 0 := ⟨gw 8 (by decide +kernel) rfl, gw 1056 (by decide +kernel) rfl, by decide, by decide, by decide +kernel⟩
theorem lcMo_orderExactly : LkV mMo_orderExactly 0 := ⟨lmMo_orderExactly, gw 1055 (by decide +kernel) rfl, gwp 32 (by decide +kernel) rfl⟩
abbrev mMo_travel : xM := (10, ⟨"DrillArchiveModel", "travel", "(I)J"⟩, prog_12_method_22_code, 5, (some .long), tbMo_travel)
theorem lmMo_travel : LkM mMo_travel 1 := ⟨gw 8 (by decide +kernel) rfl, gw 1061 (by decide +kernel) rfl, by decide, by decide, by decide +kernel⟩
theorem lcMo_travel : LkV mMo_travel 1 := ⟨lmMo_travel, gw 1059 (by decide +kernel) rfl, gw 1060 (by decide +kernel) rfl⟩
abbrev mMo_proved : xM := (10, ⟨"DrillArchiveModel", "proved", "(I)Z"⟩, prog_12_method_23_code, 2, (some .boolean), tbMo_proved)
theorem lmMo_proved : LkM mMo_proved 1 := ⟨gw 8 (by decide +kernel) rfl, gw 1065 (by decide +kernel) rfl, by decide, by decide, by decide +kernel⟩
theorem lcMo_proved : LkV mMo_proved 1 := ⟨lmMo_proved, gw 1063 (by decide +kernel) rfl, gw 1064 (by decide +kernel) rfl⟩
abbrev mMo_write : xM := (10, ⟨"DrillArchiveModel", "write", "(II)I"⟩, prog_12_method_30_code, 4, (some .int), tbMo_write)
theorem lmMo_write : LkM mMo_write 2 := ⟨gw 8 (by decide +kernel) rfl, gw 1069 (by decide +kernel) rfl, by decide, by decide, by decide +kernel⟩
theorem lcMo_write : LkV mMo_write 2 := ⟨lmMo_write, gw 1067 (by decide +kernel) rfl, gw 1068 (by decide +kernel) rfl⟩
abbrev mMo_layText : xM := (10, ⟨"DrillArchiveModel", "layText", "(II)V"⟩, prog_12_method_29_code, 7, none, tbMo_layText)
theorem lmMo_layText : LkM mMo_layText 2 := ⟨gw 8 (by decide +kernel) rfl, gw 1073 (by decide +kernel) rfl, by decide, by decide, by decide +kernel⟩
theorem lcMo_layText : LkV mMo_layText 2 := ⟨lmMo_layText, gw 1072 (by decide +kernel) rfl, gwp 33 (by decide +kernel) rfl⟩
abbrev mMo_say : xM := (10, ⟨"DrillArchiveModel", "say", "(I)V"⟩, prog_12_method_24_code, 2, none, tbMo_say)
theorem lmMo_say : LkM mMo_say 1 := ⟨gw 8 (by decide +kernel) rfl, gw 1077 (by decide +kernel) rfl, by decide, by decide, by decide +kernel⟩
theorem lcMo_say : LkV mMo_say 1 := ⟨lmMo_say, gw 1076 (by decide +kernel) rfl, gwp 34 (by decide +kernel) rfl⟩
abbrev mMo_sayNumber : xM := (10, ⟨"DrillArchiveModel", "sayNumber", "(J)V"⟩, prog_12_method_25_code, 7, none, tbMo_sayNumber)
theorem lmMo_sayNumber : LkM mMo_sayNumber 1 := ⟨gw 8 (by decide +kernel) rfl, gw 1081 (by decide +kernel) rfl, by decide, by decide, by decide +kernel⟩
theorem lcMo_sayNumber : LkV mMo_sayNumber 1 := ⟨lmMo_sayNumber, gw 1080 (by decide +kernel) rfl, gwp 35 (by decide +kernel) rfl⟩
abbrev mMo_sayTool : xM := (10, ⟨"DrillArchiveModel", "sayTool", "(I)V"⟩, prog_12_method_28_code, 2, none, tbMo_sayTool)
theorem lmMo_sayTool : LkM mMo_sayTool 1 := ⟨gw 8 (by decide +kernel) rfl, gw 1086 (by decide +kernel) rfl, by decide, by decide, by decide +kernel⟩
theorem lcMo_sayTool : LkV mMo_sayTool 1 := ⟨lmMo_sayTool, gw 1085 (by decide +kernel) rfl, gwp 36 (by decide +kernel) rfl⟩
abbrev mMo_sayHit : xM := (10, ⟨"DrillArchiveModel", "sayHit", "(I)V"⟩, prog_12_method_27_code, 2, none, tbMo_sayHit)
theorem lmMo_sayHit : LkM mMo_sayHit 1 := ⟨gw 8 (by decide +kernel) rfl, gw 1090 (by decide +kernel) rfl, by decide, by decide, by decide +kernel⟩
theorem lcMo_sayHit : LkV mMo_sayHit 1 := ⟨lmMo_sayHit, gw 1089 (by decide +kernel) rfl, gwp 37 (by decide +kernel) rfl⟩
abbrev mMo_sayPlace : xM := (10, ⟨"DrillArchiveModel", "sayPlace", "(JJ)V"⟩, prog_12_method_26_code, 5, none, tbMo_sayPlace)
theorem lmMo_sayPlace : LkM mMo_sayPlace 2 := ⟨gw 8 (by decide +kernel) rfl, gw 1094 (by decide +kernel) rfl, by decide, by decide, by decide +kernel⟩
theorem lcMo_sayPlace : LkV mMo_sayPlace 2 := ⟨lmMo_sayPlace, gw 1093 (by decide +kernel) rfl, gwp 38 (by decide +kernel) rfl⟩
abbrev mMo_unit : xM := (10, ⟨"DrillArchiveModel", "unit", "(I)Z"⟩, prog_12_method_31_code, 2, (some .boolean), tbMo_unit)
theorem lmMo_unit : LkM mMo_unit 1 := ⟨gw 8 (by decide +kernel) rfl, gw 1098 (by decide +kernel) rfl, by decide, by decide, by decide +kernel⟩
theorem lcMo_unit : LkV mMo_unit 1 := ⟨lmMo_unit, gw 1096 (by decide +kernel) rfl, gw 1097 (by decide +kernel) rfl⟩
abbrev mMo_read : xM := (10, ⟨"DrillArchiveModel", "read", "()I"⟩, prog_12_method_45_code, 2, (some .int), tbMo_read)
theorem lmMo_read : LkM mMo_read 0 := ⟨gw 8 (by decide +kernel) rfl, gw 1102 (by decide +kernel) rfl, by decide, by decide, by decide +kernel⟩
theorem lcMo_read : LkV mMo_read 0 := ⟨lmMo_read, gw 1100 (by decide +kernel) rfl, gw 1101 (by decide +kernel) rfl⟩
abbrev mMo_readLine : xM := (10, ⟨"DrillArchiveModel", "readLine", "()V"⟩, prog_12_method_44_code, 1, none, tbMo_readLine)
theorem lmMo_readLine : LkM mMo_readLine 0 := ⟨gw 8 (by decide +kernel) rfl, gw 1106 (by decide +kernel) rfl, by decide, by decide, by decide +kernel⟩
theorem lcMo_readLine : LkV mMo_readLine 0 := ⟨lmMo_readLine, gw 1105 (by decide +kernel) rfl, gwp 39 (by decide +kernel) rfl⟩
abbrev mMo_expect : xM := (10, ⟨"DrillArchiveModel", "expect", "(I)V"⟩, prog_12_method_33_code, 2, none, tbMo_expect)
theorem lmMo_expect : LkM mMo_expect 1 := ⟨gw 8 (by decide +kernel) rfl, gw 1110 (by decide +kernel) rfl, by decide, by decide, by decide +kernel⟩
theorem lcMo_expect : LkV mMo_expect 1 := ⟨lmMo_expect, gw 1109 (by decide +kernel) rfl, gwp 40 (by decide +kernel) rfl⟩
abbrev mMo_now : xM := (10, ⟨"DrillArchiveModel", "now", "()I"⟩, prog_12_method_32_code, 1, (some .int), tbMo_now)
theorem lmMo_now : LkM mMo_now 0 := ⟨gw 8 (by decide +kernel) rfl, gw 1114 (by decide +kernel) rfl, by decide, by decide, by decide +kernel⟩
theorem lcMo_now : LkV mMo_now 0 := ⟨lmMo_now, gw 1113 (by decide +kernel) rfl, gwp 41 (by decide +kernel) rfl⟩
abbrev mMo_endLine : xM := (10, ⟨"DrillArchiveModel", "endLine", "()Z"⟩, prog_12_method_37_code, 1, (some .boolean), tbMo_endLine)
theorem lmMo_endLine : LkM mMo_endLine 0 := ⟨gw 8 (by decide +kernel) rfl, gw 1118 (by decide +kernel) rfl, by decide, by decide, by decide +kernel⟩
theorem lcMo_endLine : LkV mMo_endLine 0 := ⟨lmMo_endLine, gw 1117 (by decide +kernel) rfl, gwp 42 (by decide +kernel) rfl⟩
abbrev mMo_readFirst : xM := (10, ⟨"DrillArchiveModel", "readFirst", "()V"⟩, prog_12_method_41_code, 2, none, tbMo_readFirst)
theorem lmMo_readFirst : LkM mMo_readFirst 0 := ⟨gw 8 (by decide +kernel) rfl, gw 1122 (by decide +kernel) rfl, by decide, by decide, by decide +kernel⟩
theorem lcMo_readFirst : LkV mMo_readFirst 0 := ⟨lmMo_readFirst, gw 1121 (by decide +kernel) rfl, gwp 43 (by decide +kernel) rfl⟩
abbrev mMo_readLayers : xM := (10, ⟨"DrillArchiveModel", "readLayers", "()V"⟩, prog_12_method_39_code, 5, none, tbMo_readLayers)
theorem lmMo_readLayers : LkM mMo_readLayers 0 := ⟨gw 8 (by decide +kernel) rfl, gw 1126 (by decide +kernel) rfl, by decide, by decide, by decide +kernel⟩
theorem lcMo_readLayers : LkV mMo_readLayers 0 := ⟨lmMo_readLayers, gw 1125 (by decide +kernel) rfl, gwp 44 (by decide +kernel) rfl⟩
abbrev mMo_whole : xM := (10, ⟨"DrillArchiveModel", "whole", "()J"⟩, prog_12_method_36_code, 4, (some .long), tbMo_whole)
theorem lmMo_whole : LkM mMo_whole 0 := ⟨gw 8 (by decide +kernel) rfl, gw 1130 (by decide +kernel) rfl, by decide, by decide, by decide +kernel⟩
theorem lcMo_whole : LkV mMo_whole 0 := ⟨lmMo_whole, gw 1129 (by decide +kernel) rfl, gwp 45 (by decide +kernel) rfl⟩
abbrev mMo_isDigit : xM := (10, ⟨"DrillArchiveModel", "isDigit", "()Z"⟩, prog_12_method_34_code, 1, (some .boolean), tbMo_isDigit)
theorem lmMo_isDigit : LkM mMo_isDigit 0 := ⟨gw 8 (by decide +kernel) rfl, gw 1134 (by decide +kernel) rfl, by decide, by decide, by decide +kernel⟩
theorem lcMo_isDigit : LkV mMo_isDigit 0 := ⟨lmMo_isDigit, gw 1133 (by decide +kernel) rfl, gwp 46 (by decide +kernel) rfl⟩
abbrev mMo_must : xM := (10, ⟨"DrillArchiveModel", "must", "(Z)V"⟩, prog_12_method_38_code, 2, none, tbMo_must)
theorem lmMo_must : LkM mMo_must 1 := ⟨gw 8 (by decide +kernel) rfl, gw 1139 (by decide +kernel) rfl, by decide, by decide, by decide +kernel⟩
theorem lcMo_must : LkV mMo_must 1 := ⟨lmMo_must, gw 1138 (by decide +kernel) rfl, gwp 47 (by decide +kernel) rfl⟩
abbrev mMo_readTool : xM := (10, ⟨"DrillArchiveModel", "readTool", "()V"⟩, prog_12_method_40_code, 6, none, tbMo_readTool)
theorem lmMo_readTool : LkM mMo_readTool 0 := ⟨gw 8 (by decide +kernel) rfl, gw 1143 (by decide +kernel) rfl, by decide, by decide, by decide +kernel⟩
theorem lcMo_readTool : LkV mMo_readTool 0 := ⟨lmMo_readTool, gw 1142 (by decide +kernel) rfl, gwp 48 (by decide +kernel) rfl⟩
abbrev mMo_readSecond : xM := (10, ⟨"DrillArchiveModel", "readSecond", "()V"⟩, prog_12_method_43_code, 4, none, tbMo_readSecond)
theorem lmMo_readSecond : LkM mMo_readSecond 0 := ⟨gw 8 (by decide +kernel) rfl, gw 1147 (by decide +kernel) rfl, by decide, by decide, by decide +kernel⟩
theorem lcMo_readSecond : LkV mMo_readSecond 0 := ⟨lmMo_readSecond, gw 1146 (by decide +kernel) rfl, gwp 49 (by decide +kernel) rfl⟩
abbrev mMo_readHit : xM := (10, ⟨"DrillArchiveModel", "readHit", "()V"⟩, prog_12_method_42_code, 10, none, tbMo_readHit)
theorem lmMo_readHit : LkM mMo_readHit 0 := ⟨gw 8 (by decide +kernel) rfl, gw 1151 (by decide +kernel) rfl, by decide, by decide, by decide +kernel⟩
theorem lcMo_readHit : LkV mMo_readHit 0 := ⟨lmMo_readHit, gw 1150 (by decide +kernel) rfl, gwp 50 (by decide +kernel) rfl⟩
abbrev mMo_number : xM := (10, ⟨"DrillArchiveModel", "number", "()J"⟩, prog_12_method_35_code, 4, (some .long), tbMo_number)
theorem lmMo_number : LkM mMo_number 0 := ⟨gw 8 (by decide +kernel) rfl, gw 1155 (by decide +kernel) rfl, by decide, by decide, by decide +kernel⟩
theorem lcMo_number : LkV mMo_number 0 := ⟨lmMo_number, gw 1154 (by decide +kernel) rfl, gwp 51 (by decide +kernel) rfl⟩
abbrev mMo_file : xM := (10, ⟨"DrillArchiveModel", "file", "(I)I"⟩, prog_12_method_47_code, 2, (some .int), tbMo_file)
theorem lmMo_file : LkM mMo_file 1 := ⟨gw 8 (by decide +kernel) rfl, gw 1159 (by decide +kernel) rfl, by decide, by decide, by decide +kernel⟩
theorem lcMo_file : LkV mMo_file 1 := ⟨lmMo_file, gw 1157 (by decide +kernel) rfl, gw 1158 (by decide +kernel) rfl⟩
abbrev mMo_fileWith : xM := (10, ⟨"DrillArchiveModel", "fileWith", "(I)I"⟩, prog_12_method_46_code, 3, (some .int), tbMo_fileWith)
theorem lmMo_fileWith : LkM mMo_fileWith 1 := ⟨gw 8 (by decide +kernel) rfl, gw 1163 (by decide +kernel) rfl, by decide, by decide, by decide +kernel⟩
theorem lcMo_fileWith : LkV mMo_fileWith 1 := ⟨lmMo_fileWith, gw 1162 (by decide +kernel) rfl, gwp 52 (by decide +kernel) rfl⟩
abbrev mMo_byteOf : xM := (10, ⟨"DrillArchiveModel", "byteOf", "(II)Z"⟩, prog_12_method_50_code, 3, (some .boolean), tbMo_byteOf)
theorem lmMo_byteOf : LkM mMo_byteOf 2 := ⟨gw 8 (by decide +kernel) rfl, gw 1167 (by decide +kernel) rfl, by decide, by decide, by decide +kernel⟩
theorem lcMo_byteOf : LkV mMo_byteOf 2 := ⟨lmMo_byteOf, gw 1165 (by decide +kernel) rfl, gw 1166 (by decide +kernel) rfl⟩
abbrev mMo_isFile : xM := (10, ⟨"DrillArchiveModel", "isFile", "(I)Z"⟩, prog_12_method_48_code, 2, (some .boolean), tbMo_isFile)
theorem lmMo_isFile : LkM mMo_isFile 1 := ⟨gw 8 (by decide +kernel) rfl, gw 1171 (by decide +kernel) rfl, by decide, by decide, by decide +kernel⟩
theorem lcMo_isFile : LkV mMo_isFile 1 := ⟨lmMo_isFile, gw 1170 (by decide +kernel) rfl, gwp 53 (by decide +kernel) rfl⟩
abbrev mMo_isByte : xM := (10, ⟨"DrillArchiveModel", "isByte", "(I)Z"⟩, prog_12_method_49_code, 1, (some .boolean), tbMo_isByte)
theorem lmMo_isByte : LkM mMo_isByte 1 := ⟨gw 8 (by decide +kernel) rfl, gw 1174 (by decide +kernel) rfl, by decide, by decide, by decide +kernel⟩
theorem lcMo_isByte : LkS mMo_isByte 1 := ⟨lmMo_isByte, gw 1173 (by decide +kernel) rfl⟩
abbrev mMo_sum : xM := (10, ⟨"DrillArchiveModel", "sum", "(I)J"⟩, prog_12_method_52_code, 2, (some .long), tbMo_sum)
theorem lmMo_sum : LkM mMo_sum 1 := ⟨gw 8 (by decide +kernel) rfl, gw 1178 (by decide +kernel) rfl, by decide, by decide, by decide +kernel⟩
theorem lcMo_sum : LkV mMo_sum 1 := ⟨lmMo_sum, gw 1176 (by decide +kernel) rfl, gw 1177 (by decide +kernel) rfl⟩
abbrev mMo_sumOf : xM := (10, ⟨"DrillArchiveModel", "sumOf", "(I)I"⟩, prog_12_method_51_code, 4, (some .int), tbMo_sumOf)
theorem lmMo_sumOf : LkM mMo_sumOf 1 := ⟨gw 8 (by decide +kernel) rfl, gw 1182 (by decide +kernel) rfl, by decide, by decide, by decide +kernel⟩
theorem lcMo_sumOf : LkV mMo_sumOf 1 := ⟨lmMo_sumOf, gw 1181 (by decide +kernel) rfl, gwp 54 (by decide +kernel) rfl⟩
abbrev mMo_archive : xM := (10, ⟨"DrillArchiveModel", "archive", "(I)I"⟩, prog_12_method_54_code, 4, (some .int), tbMo_archive)
theorem lmMo_archive : LkM mMo_archive 1 := ⟨gw 8 (by decide +kernel) rfl, gw 1187 (by decide +kernel) rfl, by decide, by decide, by decide +kernel⟩
theorem lcMo_archive : LkV mMo_archive 1 := ⟨lmMo_archive, gw 1185 (by decide +kernel) rfl, gw 1186 (by decide +kernel) rfl⟩
abbrev mMo_put : xM := (10, ⟨"DrillArchiveModel", "put", "(I)V"⟩, prog_12_method_53_code, 2, none, tbMo_put)
theorem lmMo_put : LkM mMo_put 1 := ⟨gw 8 (by decide +kernel) rfl, gw 1191 (by decide +kernel) rfl, by decide, by decide, by decide +kernel⟩
theorem lcMo_put : LkV mMo_put 1 := ⟨lmMo_put, gw 1190 (by decide +kernel) rfl, gwp 55 (by decide +kernel) rfl⟩
abbrev mMo_feed : xM := (10, ⟨"DrillArchiveModel", "feed", "(I)Z"⟩, prog_12_method_55_code, 2, (some .boolean), tbMo_feed)
theorem lmMo_feed : LkM mMo_feed 1 := ⟨gw 8 (by decide +kernel) rfl, gw 1195 (by decide +kernel) rfl, by decide, by decide, by decide +kernel⟩
theorem lcMo_feed : LkV mMo_feed 1 := ⟨lmMo_feed, gw 1193 (by decide +kernel) rfl, gw 1194 (by decide +kernel) rfl⟩
abbrev mMo_open : xM := (10, ⟨"DrillArchiveModel", "open", "()I"⟩, prog_12_method_57_code, 2, (some .int), tbMo_open)
theorem lmMo_open : LkM mMo_open 0 := ⟨gw 8 (by decide +kernel) rfl, gw 1199 (by decide +kernel) rfl, by decide, by decide, by decide +kernel⟩
theorem lcMo_open : LkV mMo_open 0 := ⟨lmMo_open, gw 1197 (by decide +kernel) rfl, gw 1198 (by decide +kernel) rfl⟩
abbrev mMo_walk : xM := (10, ⟨"DrillArchiveModel", "walk", "(Z)I"⟩, prog_12_method_56_code, 9, (some .int), tbMo_walk)
theorem lmMo_walk : LkM mMo_walk 1 := ⟨gw 8 (by decide +kernel) rfl, gw 1203 (by decide +kernel) rfl, by decide, by decide, by decide +kernel⟩
theorem lcMo_walk : LkV mMo_walk 1 := ⟨lmMo_walk, gw 1202 (by decide +kernel) rfl, gwp 56 (by decide +kernel) rfl⟩
abbrev mMo_agrees : xM := (10, ⟨"DrillArchiveModel", "agrees", "()Z"⟩, prog_12_method_59_code, 3, (some .boolean), tbMo_agrees)
theorem lmMo_agrees : LkM mMo_agrees 0 := ⟨gw 8 (by decide +kernel) rfl, gw 1207 (by decide +kernel) rfl, by decide, by decide, by decide +kernel⟩
theorem lcMo_agrees : LkV mMo_agrees 0 := ⟨lmMo_agrees, gw 1205 (by decide +kernel) rfl, gw 1206 (by decide +kernel) rfl⟩
abbrev mMo_isText : xM := (10, ⟨"DrillArchiveModel", "isText", "(I)Z"⟩, prog_12_method_58_code, 4, (some .boolean), tbMo_isText)
theorem lmMo_isText : LkM mMo_isText 1 := ⟨gw 8 (by decide +kernel) rfl, gw 1211 (by decide +kernel) rfl, by decide, by decide, by decide +kernel⟩
theorem lcMo_isText : LkV mMo_isText 1 := ⟨lmMo_isText, gw 1210 (by decide +kernel) rfl, gwp 57 (by decide +kernel) rfl⟩
abbrev mMo_told : xM := (10, ⟨"DrillArchiveModel", "told", "(I)I"⟩, prog_12_method_60_code, 5, (some .int), tbMo_told)
theorem lmMo_told : LkM mMo_told 1 := ⟨gw 8 (by decide +kernel) rfl, gw 1215 (by decide +kernel) rfl, by decide, by decide, by decide +kernel⟩
theorem lcMo_told : LkV mMo_told 1 := ⟨lmMo_told, gw 1213 (by decide +kernel) rfl, gw 1214 (by decide +kernel) rfl⟩
theorem lk_13_58 : Lk "DrillArchiveLaw" 58 mDa_init := gw 26 (by decide +kernel) rfl
theorem lk_0_1 : Cond.methodLink "DrillArchive" 1 Lib.objectInit ∈ gTB := gw 29 (by decide +kernel) rfl
theorem ln_0_9 : LkN "DrillArchive" 9 mPl_init := gwn 34 (by decide +kernel) rfl
theorem lk_4_3 : Cond.methodLink "DrillArchive$Planner" 3 Lib.objectInit ∈ gTB := gw 37 (by decide +kernel) rfl
theorem lk_4_11 : Lk "DrillArchive$Planner" 11 mHi_init := gw 40 (by decide +kernel) rfl
theorem lk_3_1 : Cond.methodLink "DrillArchive$Hit" 1 Lib.objectInit ∈ gTB := gw 43 (by decide +kernel) rfl
theorem lk_0_18 : Lk "DrillArchive" 18 mTw_init := gw 100 (by decide +kernel) rfl
theorem lk_8_3 : Cond.methodLink "DrillArchive$TextWriter" 3 Lib.objectInit ∈ gTB := gw 103 (by decide +kernel) rfl
theorem lk_8_11 : Lk "DrillArchive$TextWriter" 11 mRo_init := gw 106 (by decide +kernel) rfl
theorem lk_5_3 : Cond.methodLink "DrillArchive$Row" 3 Lib.objectInit ∈ gTB := gw 109 (by decide +kernel) rfl
theorem lk_0_27 : Lk "DrillArchive" 27 mRo_init := gw 143 (by decide +kernel) rfl
theorem ln_0_39 : LkN "DrillArchive" 39 mDr_init := gwn 146 (by decide +kernel) rfl
theorem lk_1_3 : Cond.methodLink "DrillArchive$Drawing" 3 Lib.objectInit ∈ gTB := gw 149 (by decide +kernel) rfl
theorem ln_0_46 : LkN "DrillArchive" 46 mFs_init := gwn 171 (by decide +kernel) rfl
theorem lk_2_3 : Cond.methodLink "DrillArchive$FileSet" 3 Lib.objectInit ∈ gTB := gw 174 (by decide +kernel) rfl
theorem lk_13_86 : Lk "DrillArchiveLaw" 86 mDa_unit := gw 204 (by decide +kernel) rfl
theorem lk_0_109 : Lk "DrillArchive" 109 mRo_push := gw 208 (by decide +kernel) rfl
theorem lk_5_22 : Lk "DrillArchive$Row" 22 mJAr_copyOf := gw 212 (by decide +kernel) rfl
theorem lk_14_304 : Lk "java/util/Arrays" 304 mJMa_min := gw 222 (by decide +kernel) rfl
theorem lk_13_90 : Lk "DrillArchiveLaw" 90 mDa_read := gw 228 (by decide +kernel) rfl
theorem lk_0_114 : Lk "DrillArchive" 114 mTr_init := gw 234 (by decide +kernel) rfl
theorem lk_7_3 : Cond.methodLink "DrillArchive$TextReader" 3 Lib.objectInit ∈ gTB := gw 237 (by decide +kernel) rfl
theorem lk_0_117 : Lk "DrillArchive" 117 mTr_firstWrong := gw 266 (by decide +kernel) rfl
theorem lk_7_23 : Lk "DrillArchive$TextReader" 23 mTr_readLayers := gw 270 (by decide +kernel) rfl
theorem lk_7_43 : Lk "DrillArchive$TextReader" 43 mTr_passes := gw 275 (by decide +kernel) rfl
theorem lk_7_138 : Lk "DrillArchive$TextReader" 138 mJSt_length := gw 279 (by decide +kernel) rfl
theorem lk_16_335 : Lk "java/lang/String" 335 mJSt_coder := gw 283 (by decide +kernel) rfl
theorem lk_7_50 : Lk "DrillArchive$TextReader" 50 mRo_get := gw 289 (by decide +kernel) rfl
theorem lk_7_144 : Lk "DrillArchive$TextReader" 144 mJSt_charAt := gw 293 (by decide +kernel) rfl
theorem lk_16_492 : Lk "java/lang/String" 492 mJSt_isLatin1 := gw 297 (by decide +kernel) rfl
theorem lk_16_495 : Lk "java/lang/String" 495 mJSl_charAt := gw 301 (by decide +kernel) rfl
theorem lk_17_9 : Lk "java/lang/StringLatin1" 9 mJSt_checkIndex := gw 304 (by decide +kernel) rfl
theorem lk_16_1059 : Lk "java/lang/String" 1059 mJPr_checkIndex := gw 309 (by decide +kernel) rfl
theorem lk_7_47 : Lk "DrillArchive$TextReader" 47 mTr_readLayerLine := gw 331 (by decide +kernel) rfl
theorem lk_7_67 : Lk "DrillArchive$TextReader" 67 mTr_readPart := gw 335 (by decide +kernel) rfl
theorem lk_7_135 : Lk "DrillArchive$TextReader" 135 mTr_isDigit := gw 339 (by decide +kernel) rfl
theorem ln_7_82 : LkN "DrillArchive$TextReader" 82 mDa_isLayer := gwn 343 (by decide +kernel) rfl
theorem lk_7_86 : Lk "DrillArchive$TextReader" 86 mTr_can := gw 346 (by decide +kernel) rfl
theorem lk_7_27 : Lk "DrillArchive$TextReader" 27 mTr_readTools := gw 350 (by decide +kernel) rfl
theorem lk_7_54 : Lk "DrillArchive$TextReader" 54 mTr_readToolLine := gw 354 (by decide +kernel) rfl
theorem ln_7_99 : LkN "DrillArchive$TextReader" 99 mDa_isDiameter := gwn 360 (by decide +kernel) rfl
theorem lk_7_103 : Lk "DrillArchive$TextReader" 103 mDr_addTool := gw 364 (by decide +kernel) rfl
theorem lk_1_27 : Lk "DrillArchive$Drawing" 27 mTo_init := gw 369 (by decide +kernel) rfl
theorem lk_9_3 : Cond.methodLink "DrillArchive$Tool" 3 Lib.objectInit ∈ gTB := gw 372 (by decide +kernel) rfl
theorem lk_9_11 : Lk "DrillArchive$Tool" 11 mRo_init := gw 374 (by decide +kernel) rfl
theorem lk_7_30 : Lk "DrillArchive$TextReader" 30 mTr_readHits := gw 404 (by decide +kernel) rfl
theorem lk_7_59 : Lk "DrillArchive$TextReader" 59 mTr_readHitLine := gw 408 (by decide +kernel) rfl
theorem lk_7_111 : Lk "DrillArchive$TextReader" 111 mTr_readPlace := gw 412 (by decide +kernel) rfl
theorem ln_7_122 : LkN "DrillArchive$TextReader" 122 mDa_isPlace := gwn 417 (by decide +kernel) rfl
theorem lk_7_128 : Lk "DrillArchive$TextReader" 128 mHi_init := gw 423 (by decide +kernel) rfl
theorem lk_7_131 : Lk "DrillArchive$TextReader" 131 mDr_addHit := gw 424 (by decide +kernel) rfl
theorem lk_1_33 : Lk "DrillArchive$Drawing" 33 mDr_toolAt := gw 428 (by decide +kernel) rfl
theorem lk_1_40 : Lk "DrillArchive$Drawing" 40 mTo_addHit := gw 432 (by decide +kernel) rfl
theorem lk_9_31 : Lk "DrillArchive$Tool" 31 mRo_push := gw 436 (by decide +kernel) rfl
theorem lk_7_62 : Lk "DrillArchive$TextReader" 62 mTr_readChoiceLine := gw 437 (by decide +kernel) rfl
theorem lk_7_107 : Lk "DrillArchive$TextReader" 107 mDr_toolAt := gw 441 (by decide +kernel) rfl
theorem lk_0_121 : Lk "DrillArchive" 121 mRo_empty := gw 443 (by decide +kernel) rfl
theorem lk_0_62 : Lk "DrillArchive" 62 mTw_forget := gw 447 (by decide +kernel) rfl
theorem lk_13_116 : Lk "DrillArchiveLaw" 116 mDa_feed := gw 451 (by decide +kernel) rfl
theorem lk_0_169 : Lk "DrillArchive" 169 mDa_isByte := gw 455 (by decide +kernel) rfl
theorem lk_13_120 : Lk "DrillArchiveLaw" 120 mDa_open := gw 458 (by decide +kernel) rfl
theorem lk_0_182 : Lk "DrillArchive" 182 mFs_take := gw 462 (by decide +kernel) rfl
theorem lk_2_46 : Lk "DrillArchive$FileSet" 46 mRo_get := gw 466 (by decide +kernel) rfl
theorem lk_2_51 : Lk "DrillArchive$FileSet" 51 mFs_takeFile := gw 467 (by decide +kernel) rfl
theorem lk_2_56 : Lk "DrillArchive$FileSet" 56 mFs_pair := gw 471 (by decide +kernel) rfl
theorem lk_2_59 : Lk "DrillArchive$FileSet" 59 mFs_add := gw 474 (by decide +kernel) rfl
theorem ln_2_17 : LkN "DrillArchive$FileSet" 17 mDa_isRole := gwn 478 (by decide +kernel) rfl
theorem lk_2_21 : Lk "DrillArchive$FileSet" 21 mFs_withRole := gw 481 (by decide +kernel) rfl
theorem lk_2_32 : Lk "DrillArchive$FileSet" 32 mFs_fileAt := gw 485 (by decide +kernel) rfl
theorem lk_2_29 : Lk "DrillArchive$FileSet" 29 mSf_init := gw 490 (by decide +kernel) rfl
theorem lk_6_3 : Cond.methodLink "DrillArchive$StoredFile" 3 Lib.objectInit ∈ gTB := gw 493 (by decide +kernel) rfl
theorem lk_6_11 : Lk "DrillArchive$StoredFile" 11 mRo_init := gw 495 (by decide +kernel) rfl
theorem lk_2_62 : Lk "DrillArchive$FileSet" 62 mSf_push := gw 510 (by decide +kernel) rfl
theorem lk_6_24 : Lk "DrillArchive$StoredFile" 24 mRo_push := gw 514 (by decide +kernel) rfl
theorem lk_13_124 : Lk "DrillArchiveLaw" 124 mDa_agrees := gw 516 (by decide +kernel) rfl
theorem lk_0_187 : Lk "DrillArchive" 187 mDa_told := gw 520 (by decide +kernel) rfl
theorem lk_0_190 : Lk "DrillArchive" 190 mFs_withRole := gw 524 (by decide +kernel) rfl
theorem lk_0_101 : Lk "DrillArchive" 101 mTw_textOf := gw 525 (by decide +kernel) rfl
theorem lk_8_35 : Lk "DrillArchive$TextWriter" 35 mRo_empty := gw 529 (by decide +kernel) rfl
theorem lk_8_38 : Lk "DrillArchive$TextWriter" 38 mTw_writeHead := gw 530 (by decide +kernel) rfl
theorem lk_8_63 : Lk "DrillArchive$TextWriter" 63 mRo_pushText := gw 535 (by decide +kernel) rfl
theorem lk_5_28 : Lk "DrillArchive$Row" 28 mJSt_length := gw 539 (by decide +kernel) rfl
theorem lk_5_34 : Lk "DrillArchive$Row" 34 mJSt_charAt := gw 540 (by decide +kernel) rfl
theorem lk_5_38 : Lk "DrillArchive$Row" 38 mRo_push := gw 541 (by decide +kernel) rfl
theorem lk_8_69 : Lk "DrillArchive$TextWriter" 69 mRo_pushPart := gw 542 (by decide +kernel) rfl
theorem lk_5_42 : Lk "DrillArchive$Row" 42 mJMa_abs := gw 546 (by decide +kernel) rfl
theorem lk_8_73 : Lk "DrillArchive$TextWriter" 73 mRo_push := gw 550 (by decide +kernel) rfl
theorem lk_8_47 : Lk "DrillArchive$TextWriter" 47 mDr_toolAt := gw 551 (by decide +kernel) rfl
theorem lk_8_51 : Lk "DrillArchive$TextWriter" 51 mPl_plan := gw 555 (by decide +kernel) rfl
theorem lk_4_41 : Lk "DrillArchive$Planner" 41 mTo_beginPlan := gw 559 (by decide +kernel) rfl
theorem lk_9_38 : Lk "DrillArchive$Tool" 38 mRo_empty := gw 563 (by decide +kernel) rfl
theorem lk_4_44 : Lk "DrillArchive$Planner" 44 mPl_gather := gw 564 (by decide +kernel) rfl
theorem lk_4_72 : Lk "DrillArchive$Planner" 72 mRo_get := gw 568 (by decide +kernel) rfl
theorem lk_4_76 : Lk "DrillArchive$Planner" 76 mDr_hitAt := gw 569 (by decide +kernel) rfl
theorem lk_4_52 : Lk "DrillArchive$Planner" 52 mPl_measureWays := gw 573 (by decide +kernel) rfl
theorem lk_4_82 : Lk "DrillArchive$Planner" 82 mHi_wayTo := gw 577 (by decide +kernel) rfl
theorem lk_3_31 : Lk "DrillArchive$Hit" 31 mJMa_abs := gw 581 (by decide +kernel) rfl
theorem lk_3_37 : Lk "DrillArchive$Hit" 37 mJMa_max := gw 582 (by decide +kernel) rfl
theorem lk_4_55 : Lk "DrillArchive$Planner" 55 mPl_measureRest := gw 585 (by decide +kernel) rfl
theorem lk_4_86 : Lk "DrillArchive$Planner" 86 mPl_bestNext := gw 589 (by decide +kernel) rfl
theorem lk_4_58 : Lk "DrillArchive$Planner" 58 mPl_planLeast := gw 593 (by decide +kernel) rfl
theorem lk_4_93 : Lk "DrillArchive$Planner" 93 mTo_planNext := gw 597 (by decide +kernel) rfl
theorem lk_4_62 : Lk "DrillArchive$Planner" 62 mPl_planNearest := gw 601 (by decide +kernel) rfl
theorem lk_4_97 : Lk "DrillArchive$Planner" 97 mPl_nearest := gw 605 (by decide +kernel) rfl
theorem lk_8_57 : Lk "DrillArchive$TextWriter" 57 mTw_writeHits := gw 609 (by decide +kernel) rfl
theorem lk_8_97 : Lk "DrillArchive$TextWriter" 97 mRo_get := gw 613 (by decide +kernel) rfl
theorem lk_8_101 : Lk "DrillArchive$TextWriter" 101 mDr_hitAt := gw 614 (by decide +kernel) rfl
theorem lk_8_113 : Lk "DrillArchive$TextWriter" 113 mTw_writeHit := gw 615 (by decide +kernel) rfl
theorem lk_8_123 : Lk "DrillArchive$TextWriter" 123 mHi_isSlot := gw 619 (by decide +kernel) rfl
theorem lk_0_196 : Lk "DrillArchive" 196 mRo_same := gw 625 (by decide +kernel) rfl
theorem lk_5_49 : Lk "DrillArchive$Row" 49 mRo_get := gw 629 (by decide +kernel) rfl
theorem lk_13_129 : Lk "DrillArchiveLaw" 129 mDa_told := gw 630 (by decide +kernel) rfl
theorem lk_13_136 : Lk "DrillArchiveLaw" 136 mDa_clear := gw 631 (by decide +kernel) rfl
theorem lk_13_7 : Lk "DrillArchiveLaw" 7 mDa_tool := gw 639 (by decide +kernel) rfl
theorem lk_0_51 : Lk "DrillArchive" 51 mDa_isDiameter := gw 643 (by decide +kernel) rfl
theorem lk_18_1 : Cond.methodLink "java/lang/Throwable" 1 Lib.objectInit ∈ gTB := gw 669 (by decide +kernel) rfl
theorem lk_0_59 : Lk "DrillArchive" 59 mJIa_init := gw 685 (by decide +kernel) rfl
theorem lk_11_7 : Lk "java/lang/IllegalArgumentException" 7 mJRe_init := gw 688 (by decide +kernel) rfl
theorem lk_21_7 : Lk "java/lang/RuntimeException" 7 mJEx_init := gw 691 (by decide +kernel) rfl
theorem lk_20_7 : Lk "java/lang/Exception" 7 mJTh_init2 := gw 694 (by decide +kernel) rfl
theorem lk_0_65 : Lk "DrillArchive" 65 mDr_addTool := gw 710 (by decide +kernel) rfl
theorem lk_13_15 : Lk "DrillArchiveLaw" 15 mDa_hole := gw 715 (by decide +kernel) rfl
theorem lk_0_69 : Lk "DrillArchive" 69 mDa_knownTool := gw 719 (by decide +kernel) rfl
theorem lk_0_202 : Lk "DrillArchive" 202 mDr_toolAt := gw 723 (by decide +kernel) rfl
theorem lk_0_81 : Lk "DrillArchive" 81 mJIo_init := gw 734 (by decide +kernel) rfl
theorem lk_12_7 : Lk "java/lang/IndexOutOfBoundsException" 7 mJRe_init := gw 737 (by decide +kernel) rfl
theorem lk_0_73 : Lk "DrillArchive" 73 mDa_isLayer := gw 740 (by decide +kernel) rfl
theorem lk_0_82 : Lk "DrillArchive" 82 mDa_isPlace := gw 742 (by decide +kernel) rfl
theorem lk_0_90 : Lk "DrillArchive" 90 mHi_init := gw 745 (by decide +kernel) rfl
theorem lk_0_93 : Lk "DrillArchive" 93 mDr_addHit := gw 746 (by decide +kernel) rfl
theorem lk_13_21 : Lk "DrillArchiveLaw" 21 mDa_slot := gw 750 (by decide +kernel) rfl
theorem lk_13_25 : Lk "DrillArchiveLaw" 25 mDa_write := gw 758 (by decide +kernel) rfl
theorem lk_0_105 : Lk "DrillArchive" 105 mRo_get := gw 763 (by decide +kernel) rfl
theorem lk_13_29 : Lk "DrillArchiveLaw" 29 mDa_at := gw 767 (by decide +kernel) rfl
theorem lk_0_128 : Lk "DrillArchive" 128 mDr_hitAt := gw 771 (by decide +kernel) rfl
theorem lk_0_134 : Lk "DrillArchive" 134 mHi_part := gw 773 (by decide +kernel) rfl
theorem lk_3_41 : Lk "DrillArchive$Hit" 41 mHi_isSlot := gw 777 (by decide +kernel) rfl
theorem lk_13_33 : Lk "DrillArchiveLaw" 33 mDa_order := gw 781 (by decide +kernel) rfl
theorem lk_0_138 : Lk "DrillArchive" 138 mPl_plan := gw 785 (by decide +kernel) rfl
theorem lk_13_36 : Lk "DrillArchiveLaw" 36 mDa_travel := gw 789 (by decide +kernel) rfl
theorem lk_13_40 : Lk "DrillArchiveLaw" 40 mDa_proved := gw 796 (by decide +kernel) rfl
theorem lk_13_44 : Lk "DrillArchiveLaw" 44 mDa_file := gw 803 (by decide +kernel) rfl
theorem lk_0_157 : Lk "DrillArchive" 157 mDa_isRole := gw 807 (by decide +kernel) rfl
theorem lk_0_162 : Lk "DrillArchive" 162 mFs_add := gw 809 (by decide +kernel) rfl
theorem lk_13_48 : Lk "DrillArchiveLaw" 48 mDa_byteOf := gw 813 (by decide +kernel) rfl
theorem lk_0_165 : Lk "DrillArchive" 165 mDa_knownFile := gw 817 (by decide +kernel) rfl
theorem lk_0_207 : Lk "DrillArchive" 207 mFs_fileAt := gw 821 (by decide +kernel) rfl
theorem lk_0_174 : Lk "DrillArchive" 174 mSf_push := gw 824 (by decide +kernel) rfl
theorem lk_13_52 : Lk "DrillArchiveLaw" 52 mDa_archive := gw 828 (by decide +kernel) rfl
theorem lk_0_179 : Lk "DrillArchive" 179 mFs_joined := gw 833 (by decide +kernel) rfl
theorem lk_2_38 : Lk "DrillArchive$FileSet" 38 mSf_joinedSize := gw 837 (by decide +kernel) rfl
theorem lk_2_42 : Lk "DrillArchive$FileSet" 42 mSf_joined := gw 841 (by decide +kernel) rfl
theorem lk_6_35 : Lk "DrillArchive$StoredFile" 35 mRo_get := gw 845 (by decide +kernel) rfl
theorem lk_13_55 : Lk "DrillArchiveLaw" 55 mDa_sum := gw 849 (by decide +kernel) rfl
theorem lk_13_61 : Lk "DrillArchiveLaw" 61 mMo_init := gw 855 (by decide +kernel) rfl
theorem lk_10_1 : Cond.methodLink "DrillArchiveModel" 1 Lib.objectInit ∈ gTB := gw 858 (by decide +kernel) rfl
theorem lk_13_70 : Lk "DrillArchiveLaw" 70 mMo_thrown := gw 978 (by decide +kernel) rfl
theorem lk_13_139 : Lk "DrillArchiveLaw" 139 mMo_clear := gw 982 (by decide +kernel) rfl
theorem lk_13_69 : Lk "DrillArchiveLaw" 69 mMo_tool := gw 986 (by decide +kernel) rfl
theorem lk_10_96 : Lk "DrillArchiveModel" 96 mMo_isDiameter := gw 990 (by decide +kernel) rfl
theorem lk_10_100 : Lk "DrillArchiveModel" 100 mMo_addTool := gw 994 (by decide +kernel) rfl
theorem lk_13_77 : Lk "DrillArchiveLaw" 77 mMo_hole := gw 998 (by decide +kernel) rfl
theorem lk_10_104 : Lk "DrillArchiveModel" 104 mMo_isTool := gw 1002 (by decide +kernel) rfl
theorem lk_10_108 : Lk "DrillArchiveModel" 108 mMo_isLayer := gw 1006 (by decide +kernel) rfl
theorem lk_10_111 : Lk "DrillArchiveModel" 111 mMo_isPlace := gw 1010 (by decide +kernel) rfl
theorem lk_10_115 : Lk "DrillArchiveModel" 115 mMo_addHit := gw 1015 (by decide +kernel) rfl
theorem lk_13_81 : Lk "DrillArchiveLaw" 81 mMo_slot := gw 1019 (by decide +kernel) rfl
theorem lk_13_96 : Lk "DrillArchiveLaw" 96 mMo_at := gw 1023 (by decide +kernel) rfl
theorem lk_13_99 : Lk "DrillArchiveLaw" 99 mMo_order := gw 1027 (by decide +kernel) rfl
theorem lk_10_146 : Lk "DrillArchiveModel" 146 mMo_findOrder := gw 1031 (by decide +kernel) rfl
theorem lk_10_136 : Lk "DrillArchiveModel" 136 mMo_collect := gw 1035 (by decide +kernel) rfl
theorem lk_10_140 : Lk "DrillArchiveModel" 140 mMo_orderNearest := gw 1039 (by decide +kernel) rfl
theorem lk_10_132 : Lk "DrillArchiveModel" 132 mMo_way := gw 1043 (by decide +kernel) rfl
theorem lk_10_123 : Lk "DrillArchiveModel" 123 mMo_wayOf := gw 1047 (by decide +kernel) rfl
theorem lk_10_119 : Lk "DrillArchiveModel" 119 mMo_size := gw 1050 (by decide +kernel) rfl
theorem lk_10_143 : Lk "DrillArchiveModel" 143 mMo_orderExactly := gw 1053 (by decide +kernel) rfl
theorem lk_13_103 : Lk "DrillArchiveLaw" 103 mMo_travel := gw 1058 (by decide +kernel) rfl
theorem lk_13_106 : Lk "DrillArchiveLaw" 106 mMo_proved := gw 1062 (by decide +kernel) rfl
theorem lk_13_85 : Lk "DrillArchiveLaw" 85 mMo_write := gw 1066 (by decide +kernel) rfl
theorem lk_10_171 : Lk "DrillArchiveModel" 171 mMo_layText := gw 1070 (by decide +kernel) rfl
theorem lk_10_152 : Lk "DrillArchiveModel" 152 mMo_say := gw 1074 (by decide +kernel) rfl
theorem lk_10_157 : Lk "DrillArchiveModel" 157 mMo_sayNumber := gw 1078 (by decide +kernel) rfl
theorem lk_10_165 : Lk "DrillArchiveModel" 165 mMo_sayTool := gw 1083 (by decide +kernel) rfl
theorem lk_10_168 : Lk "DrillArchiveModel" 168 mMo_sayHit := gw 1087 (by decide +kernel) rfl
theorem lk_10_161 : Lk "DrillArchiveModel" 161 mMo_sayPlace := gw 1091 (by decide +kernel) rfl
theorem lk_13_89 : Lk "DrillArchiveLaw" 89 mMo_unit := gw 1095 (by decide +kernel) rfl
theorem lk_13_93 : Lk "DrillArchiveLaw" 93 mMo_read := gw 1099 (by decide +kernel) rfl
theorem lk_10_245 : Lk "DrillArchiveModel" 245 mMo_readLine := gw 1103 (by decide +kernel) rfl
theorem lk_10_195 : Lk "DrillArchiveModel" 195 mMo_expect := gw 1107 (by decide +kernel) rfl
theorem lk_10_181 : Lk "DrillArchiveModel" 181 mMo_now := gw 1111 (by decide +kernel) rfl
theorem lk_10_209 : Lk "DrillArchiveModel" 209 mMo_endLine := gw 1115 (by decide +kernel) rfl
theorem lk_10_239 : Lk "DrillArchiveModel" 239 mMo_readFirst := gw 1119 (by decide +kernel) rfl
theorem lk_10_221 : Lk "DrillArchiveModel" 221 mMo_readLayers := gw 1123 (by decide +kernel) rfl
theorem lk_10_185 : Lk "DrillArchiveModel" 185 mMo_whole := gw 1127 (by decide +kernel) rfl
theorem lk_10_189 : Lk "DrillArchiveModel" 189 mMo_isDigit := gw 1131 (by decide +kernel) rfl
theorem lk_10_205 : Lk "DrillArchiveModel" 205 mMo_must := gw 1136 (by decide +kernel) rfl
theorem lk_10_224 : Lk "DrillArchiveModel" 224 mMo_readTool := gw 1140 (by decide +kernel) rfl
theorem lk_10_242 : Lk "DrillArchiveModel" 242 mMo_readSecond := gw 1144 (by decide +kernel) rfl
theorem lk_10_236 : Lk "DrillArchiveModel" 236 mMo_readHit := gw 1148 (by decide +kernel) rfl
theorem lk_10_230 : Lk "DrillArchiveModel" 230 mMo_number := gw 1152 (by decide +kernel) rfl
theorem lk_13_109 : Lk "DrillArchiveLaw" 109 mMo_file := gw 1156 (by decide +kernel) rfl
theorem lk_10_248 : Lk "DrillArchiveModel" 248 mMo_fileWith := gw 1160 (by decide +kernel) rfl
theorem lk_13_112 : Lk "DrillArchiveLaw" 112 mMo_byteOf := gw 1164 (by decide +kernel) rfl
theorem lk_10_252 : Lk "DrillArchiveModel" 252 mMo_isFile := gw 1168 (by decide +kernel) rfl
theorem lk_10_255 : Lk "DrillArchiveModel" 255 mMo_isByte := gw 1172 (by decide +kernel) rfl
theorem lk_13_135 : Lk "DrillArchiveLaw" 135 mMo_sum := gw 1175 (by decide +kernel) rfl
theorem lk_10_259 : Lk "DrillArchiveModel" 259 mMo_sumOf := gw 1179 (by decide +kernel) rfl
theorem lk_13_115 : Lk "DrillArchiveLaw" 115 mMo_archive := gw 1184 (by decide +kernel) rfl
theorem lk_10_271 : Lk "DrillArchiveModel" 271 mMo_put := gw 1188 (by decide +kernel) rfl
theorem lk_13_119 : Lk "DrillArchiveLaw" 119 mMo_feed := gw 1192 (by decide +kernel) rfl
theorem lk_13_123 : Lk "DrillArchiveLaw" 123 mMo_open := gw 1196 (by decide +kernel) rfl
theorem lk_10_274 : Lk "DrillArchiveModel" 274 mMo_walk := gw 1200 (by decide +kernel) rfl
theorem lk_13_128 : Lk "DrillArchiveLaw" 128 mMo_agrees := gw 1204 (by decide +kernel) rfl
theorem lk_10_278 : Lk "DrillArchiveModel" 278 mMo_isText := gw 1208 (by decide +kernel) rfl
theorem lk_13_132 : Lk "DrillArchiveLaw" 132 mMo_told := gw 1212 (by decide +kernel) rfl
end
section
/-! decode rows (by program) -/
theorem tkDa_init : ∀ q ∈ tbDa_init, decode prog_1_method_1_code q.1 = .ok (q.2, xlen q.2) := by decide +kernel
theorem tkPl_init : ∀ q ∈ tbPl_init, decode prog_5_method_1_code q.1 = .ok (q.2, xlen q.2) := by decide +kernel
theorem tkHi_init : ∀ q ∈ tbHi_init, decode prog_4_method_1_code q.1 = .ok (q.2, xlen q.2) := by decide +kernel
theorem tkTw_init : ∀ q ∈ tbTw_init, decode prog_9_method_1_code q.1 = .ok (q.2, xlen q.2) := by decide +kernel
theorem tkRo_init : ∀ q ∈ tbRo_init, decode prog_6_method_1_code q.1 = .ok (q.2, xlen q.2) := by decide +kernel
theorem tkDr_init : ∀ q ∈ tbDr_init, decode prog_2_method_1_code q.1 = .ok (q.2, xlen q.2) := by decide +kernel
theorem tkFs_init : ∀ q ∈ tbFs_init, decode prog_3_method_1_code q.1 = .ok (q.2, xlen q.2) := by decide +kernel
theorem tkDa_unit : ∀ q ∈ tbDa_unit, decode prog_1_method_6_code q.1 = .ok (q.2, xlen q.2) := by decide +kernel
theorem tkRo_push : ∀ q ∈ tbRo_push, decode prog_6_method_2_code q.1 = .ok (q.2, xlen q.2) := by decide +kernel
theorem tkDa_read : ∀ q ∈ tbDa_read, decode prog_1_method_7_code q.1 = .ok (q.2, xlen q.2) := by decide +kernel
theorem tkTr_init : ∀ q ∈ tbTr_init, decode prog_8_method_1_code q.1 = .ok (q.2, xlen q.2) := by decide +kernel
theorem tkTr_firstWrong : ∀ q ∈ tbTr_firstWrong, decode prog_8_method_2_code q.1 = .ok (q.2, xlen q.2) := by decide +kernel
theorem tkTr_readLayers : ∀ q ∈ tbTr_readLayers, decode prog_8_method_3_code q.1 = .ok (q.2, xlen q.2) := by decide +kernel
theorem tkTr_passes : ∀ q ∈ tbTr_passes, decode prog_8_method_12_code q.1 = .ok (q.2, xlen q.2) := by decide +kernel
theorem tkJSt_length : ∀ q ∈ tbJSt_length, decode prog_19_method_54_code q.1 = .ok (q.2, xlen q.2) := by decide +kernel
theorem tkJSt_coder : ∀ q ∈ tbJSt_coder, decode prog_19_method_152_code q.1 = .ok (q.2, xlen q.2) := by decide +kernel
theorem tkRo_get : ∀ q ∈ tbRo_get, decode prog_6_method_5_code q.1 = .ok (q.2, xlen q.2) := by decide +kernel
theorem tkJSt_charAt : ∀ q ∈ tbJSt_charAt, decode prog_19_method_56_code q.1 = .ok (q.2, xlen q.2) := by decide +kernel
theorem tkJSt_isLatin1 : ∀ q ∈ tbJSt_isLatin1, decode prog_19_method_154_code q.1 = .ok (q.2, xlen q.2) := by decide +kernel
theorem tkJSl_charAt : ∀ q ∈ tbJSl_charAt, decode prog_20_method_2_code q.1 = .ok (q.2, xlen q.2) := by decide +kernel
theorem tkJSt_checkIndex : ∀ q ∈ tbJSt_checkIndex, decode prog_19_method_155_code q.1 = .ok (q.2, xlen q.2) := by decide +kernel
theorem tkJPr_checkIndex : ∀ q ∈ tbJPr_checkIndex, decode prog_25_method_11_code q.1 = .ok (q.2, xlen q.2) := by decide +kernel
theorem tkTr_readLayerLine : ∀ q ∈ tbTr_readLayerLine, decode prog_8_method_6_code q.1 = .ok (q.2, xlen q.2) := by decide +kernel
theorem tkTr_readPart : ∀ q ∈ tbTr_readPart, decode prog_8_method_11_code q.1 = .ok (q.2, xlen q.2) := by decide +kernel
theorem tkTr_isDigit : ∀ q ∈ tbTr_isDigit, decode prog_8_method_14_code q.1 = .ok (q.2, xlen q.2) := by decide +kernel
theorem tkDa_isLayer : ∀ q ∈ tbDa_isLayer, decode prog_1_method_24_code q.1 = .ok (q.2, xlen q.2) := by decide +kernel
theorem tkTr_can : ∀ q ∈ tbTr_can, decode prog_8_method_13_code q.1 = .ok (q.2, xlen q.2) := by decide +kernel
theorem tkTr_readTools : ∀ q ∈ tbTr_readTools, decode prog_8_method_4_code q.1 = .ok (q.2, xlen q.2) := by decide +kernel
theorem tkTr_readToolLine : ∀ q ∈ tbTr_readToolLine, decode prog_8_method_7_code q.1 = .ok (q.2, xlen q.2) := by decide +kernel
theorem tkDa_isDiameter : ∀ q ∈ tbDa_isDiameter, decode prog_1_method_23_code q.1 = .ok (q.2, xlen q.2) := by decide +kernel
theorem tkDr_addTool : ∀ q ∈ tbDr_addTool, decode prog_2_method_2_code q.1 = .ok (q.2, xlen q.2) := by decide +kernel
theorem tkTo_init : ∀ q ∈ tbTo_init, decode prog_10_method_1_code q.1 = .ok (q.2, xlen q.2) := by decide +kernel
end
section
/-! decode rows (by program) -/
theorem tkTr_readHits : ∀ q ∈ tbTr_readHits, decode prog_8_method_5_code q.1 = .ok (q.2, xlen q.2) := by decide +kernel
theorem tkTr_readHitLine : ∀ q ∈ tbTr_readHitLine, decode prog_8_method_9_code q.1 = .ok (q.2, xlen q.2) := by decide +kernel
theorem tkTr_readPlace : ∀ q ∈ tbTr_readPlace, decode prog_8_method_10_code q.1 = .ok (q.2, xlen q.2) := by decide +kernel
theorem tkDa_isPlace : ∀ q ∈ tbDa_isPlace, decode prog_1_method_25_code q.1 = .ok (q.2, xlen q.2) := by decide +kernel
theorem tkDr_addHit : ∀ q ∈ tbDr_addHit, decode prog_2_method_3_code q.1 = .ok (q.2, xlen q.2) := by decide +kernel
theorem tkDr_toolAt : ∀ q ∈ tbDr_toolAt, decode prog_2_method_4_code q.1 = .ok (q.2, xlen q.2) := by decide +kernel
theorem tkTo_addHit : ∀ q ∈ tbTo_addHit, decode prog_10_method_2_code q.1 = .ok (q.2, xlen q.2) := by decide +kernel
theorem tkTr_readChoiceLine : ∀ q ∈ tbTr_readChoiceLine, decode prog_8_method_8_code q.1 = .ok (q.2, xlen q.2) := by decide +kernel
theorem tkRo_empty : ∀ q ∈ tbRo_empty, decode prog_6_method_7_code q.1 = .ok (q.2, xlen q.2) := by decide +kernel
theorem tkTw_forget : ∀ q ∈ tbTw_forget, decode prog_9_method_2_code q.1 = .ok (q.2, xlen q.2) := by decide +kernel
theorem tkDa_feed : ∀ q ∈ tbDa_feed, decode prog_1_method_15_code q.1 = .ok (q.2, xlen q.2) := by decide +kernel
theorem tkDa_isByte : ∀ q ∈ tbDa_isByte, decode prog_1_method_27_code q.1 = .ok (q.2, xlen q.2) := by decide +kernel
theorem tkDa_open : ∀ q ∈ tbDa_open, decode prog_1_method_16_code q.1 = .ok (q.2, xlen q.2) := by decide +kernel
theorem tkFs_take : ∀ q ∈ tbFs_take, decode prog_3_method_6_code q.1 = .ok (q.2, xlen q.2) := by decide +kernel
theorem tkFs_takeFile : ∀ q ∈ tbFs_takeFile, decode prog_3_method_7_code q.1 = .ok (q.2, xlen q.2) := by decide +kernel
theorem tkFs_pair : ∀ q ∈ tbFs_pair, decode prog_3_method_8_code q.1 = .ok (q.2, xlen q.2) := by decide +kernel
theorem tkFs_add : ∀ q ∈ tbFs_add, decode prog_3_method_2_code q.1 = .ok (q.2, xlen q.2) := by decide +kernel
theorem tkDa_isRole : ∀ q ∈ tbDa_isRole, decode prog_1_method_26_code q.1 = .ok (q.2, xlen q.2) := by decide +kernel
theorem tkFs_withRole : ∀ q ∈ tbFs_withRole, decode prog_3_method_4_code q.1 = .ok (q.2, xlen q.2) := by decide +kernel
theorem tkFs_fileAt : ∀ q ∈ tbFs_fileAt, decode prog_3_method_3_code q.1 = .ok (q.2, xlen q.2) := by decide +kernel
theorem tkSf_init : ∀ q ∈ tbSf_init, decode prog_7_method_1_code q.1 = .ok (q.2, xlen q.2) := by decide +kernel
theorem tkSf_push : ∀ q ∈ tbSf_push, decode prog_7_method_2_code q.1 = .ok (q.2, xlen q.2) := by decide +kernel
theorem tkDa_agrees : ∀ q ∈ tbDa_agrees, decode prog_1_method_17_code q.1 = .ok (q.2, xlen q.2) := by decide +kernel
theorem tkDa_told : ∀ q ∈ tbDa_told, decode prog_1_method_18_code q.1 = .ok (q.2, xlen q.2) := by decide +kernel
theorem tkTw_textOf : ∀ q ∈ tbTw_textOf, decode prog_9_method_3_code q.1 = .ok (q.2, xlen q.2) := by decide +kernel
theorem tkTw_writeHead : ∀ q ∈ tbTw_writeHead, decode prog_9_method_4_code q.1 = .ok (q.2, xlen q.2) := by decide +kernel
end
section
/-! decode rows (by program) -/
theorem tkRo_pushText : ∀ q ∈ tbRo_pushText, decode prog_6_method_3_code q.1 = .ok (q.2, xlen q.2) := by decide +kernel
theorem tkRo_pushPart : ∀ q ∈ tbRo_pushPart, decode prog_6_method_4_code q.1 = .ok (q.2, xlen q.2) := by decide +kernel
theorem tkPl_plan : ∀ q ∈ tbPl_plan, decode prog_5_method_2_code q.1 = .ok (q.2, xlen q.2) := by decide +kernel
theorem tkTo_beginPlan : ∀ q ∈ tbTo_beginPlan, decode prog_10_method_3_code q.1 = .ok (q.2, xlen q.2) := by decide +kernel
theorem tkPl_gather : ∀ q ∈ tbPl_gather, decode prog_5_method_3_code q.1 = .ok (q.2, xlen q.2) := by decide +kernel
theorem tkDr_hitAt : ∀ q ∈ tbDr_hitAt, decode prog_2_method_5_code q.1 = .ok (q.2, xlen q.2) := by decide +kernel
theorem tkPl_measureWays : ∀ q ∈ tbPl_measureWays, decode prog_5_method_4_code q.1 = .ok (q.2, xlen q.2) := by decide +kernel
theorem tkHi_wayTo : ∀ q ∈ tbHi_wayTo, decode prog_4_method_3_code q.1 = .ok (q.2, xlen q.2) := by decide +kernel
theorem tkPl_measureRest : ∀ q ∈ tbPl_measureRest, decode prog_5_method_5_code q.1 = .ok (q.2, xlen q.2) := by decide +kernel
theorem tkPl_bestNext : ∀ q ∈ tbPl_bestNext, decode prog_5_method_7_code q.1 = .ok (q.2, xlen q.2) := by decide +kernel
theorem tkPl_planLeast : ∀ q ∈ tbPl_planLeast, decode prog_5_method_6_code q.1 = .ok (q.2, xlen q.2) := by decide +kernel
theorem tkTo_planNext : ∀ q ∈ tbTo_planNext, decode prog_10_method_4_code q.1 = .ok (q.2, xlen q.2) := by decide +kernel
theorem tkPl_planNearest : ∀ q ∈ tbPl_planNearest, decode prog_5_method_8_code q.1 = .ok (q.2, xlen q.2) := by decide +kernel
theorem tkPl_nearest : ∀ q ∈ tbPl_nearest, decode prog_5_method_9_code q.1 = .ok (q.2, xlen q.2) := by decide +kernel
theorem tkTw_writeHits : ∀ q ∈ tbTw_writeHits, decode prog_9_method_5_code q.1 = .ok (q.2, xlen q.2) := by decide +kernel
theorem tkTw_writeHit : ∀ q ∈ tbTw_writeHit, decode prog_9_method_6_code q.1 = .ok (q.2, xlen q.2) := by decide +kernel
theorem tkHi_isSlot : ∀ q ∈ tbHi_isSlot, decode prog_4_method_2_code q.1 = .ok (q.2, xlen q.2) := by decide +kernel
theorem tkRo_same : ∀ q ∈ tbRo_same, decode prog_6_method_6_code q.1 = .ok (q.2, xlen q.2) := by decide +kernel
theorem tkDa_clear : ∀ q ∈ tbDa_clear, decode prog_1_method_20_code q.1 = .ok (q.2, xlen q.2) := by decide +kernel
theorem tkLa_tool : ∀ q ∈ tbLa_tool, decode method_3_code q.1 = .ok (q.2, xlen q.2) := by decide +kernel
theorem tkDa_tool : ∀ q ∈ tbDa_tool, decode prog_1_method_2_code q.1 = .ok (q.2, xlen q.2) := by decide +kernel
theorem tkJTh_init : ∀ q ∈ tbJTh_init, decode prog_23_method_1_code q.1 = .ok (q.2, xlen q.2) := by decide +kernel
theorem tkJIa_init : ∀ q ∈ tbJIa_init, decode prog_15_method_2_code q.1 = .ok (q.2, xlen q.2) := by decide +kernel
theorem tkJRe_init : ∀ q ∈ tbJRe_init, decode prog_18_method_2_code q.1 = .ok (q.2, xlen q.2) := by decide +kernel
theorem tkJEx_init : ∀ q ∈ tbJEx_init, decode prog_14_method_2_code q.1 = .ok (q.2, xlen q.2) := by decide +kernel
theorem tkJTh_init2 : ∀ q ∈ tbJTh_init2, decode prog_23_method_2_code q.1 = .ok (q.2, xlen q.2) := by decide +kernel
theorem tkLa_hole : ∀ q ∈ tbLa_hole, decode method_4_code q.1 = .ok (q.2, xlen q.2) := by decide +kernel
theorem tkDa_hole : ∀ q ∈ tbDa_hole, decode prog_1_method_3_code q.1 = .ok (q.2, xlen q.2) := by decide +kernel
end
section
/-! decode rows (by program) -/
theorem tkDa_knownTool : ∀ q ∈ tbDa_knownTool, decode prog_1_method_21_code q.1 = .ok (q.2, xlen q.2) := by decide +kernel
theorem tkJIo_init : ∀ q ∈ tbJIo_init, decode prog_16_method_2_code q.1 = .ok (q.2, xlen q.2) := by decide +kernel
theorem tkLa_slot : ∀ q ∈ tbLa_slot, decode method_5_code q.1 = .ok (q.2, xlen q.2) := by decide +kernel
theorem tkDa_slot : ∀ q ∈ tbDa_slot, decode prog_1_method_4_code q.1 = .ok (q.2, xlen q.2) := by decide +kernel
theorem tkLa_write : ∀ q ∈ tbLa_write, decode method_6_code q.1 = .ok (q.2, xlen q.2) := by decide +kernel
theorem tkDa_write : ∀ q ∈ tbDa_write, decode prog_1_method_5_code q.1 = .ok (q.2, xlen q.2) := by decide +kernel
theorem tkLa_at : ∀ q ∈ tbLa_at, decode method_7_code q.1 = .ok (q.2, xlen q.2) := by decide +kernel
theorem tkDa_at : ∀ q ∈ tbDa_at, decode prog_1_method_8_code q.1 = .ok (q.2, xlen q.2) := by decide +kernel
theorem tkHi_part : ∀ q ∈ tbHi_part, decode prog_4_method_4_code q.1 = .ok (q.2, xlen q.2) := by decide +kernel
theorem tsHi_part_1 : decode prog_4_method_4_code 1 = .ok (.tableswitch 85 0 6 #[43, 49, 55, 61, 67, 73, 79], 43) := by decide +kernel
theorem tkLa_order : ∀ q ∈ tbLa_order, decode method_8_code q.1 = .ok (q.2, xlen q.2) := by decide +kernel
theorem tkDa_order : ∀ q ∈ tbDa_order, decode prog_1_method_9_code q.1 = .ok (q.2, xlen q.2) := by decide +kernel
theorem tkLa_travel : ∀ q ∈ tbLa_travel, decode method_9_code q.1 = .ok (q.2, xlen q.2) := by decide +kernel
theorem tkDa_travel : ∀ q ∈ tbDa_travel, decode prog_1_method_10_code q.1 = .ok (q.2, xlen q.2) := by decide +kernel
theorem tkLa_proved : ∀ q ∈ tbLa_proved, decode method_10_code q.1 = .ok (q.2, xlen q.2) := by decide +kernel
theorem tkDa_proved : ∀ q ∈ tbDa_proved, decode prog_1_method_11_code q.1 = .ok (q.2, xlen q.2) := by decide +kernel
theorem tkLa_file : ∀ q ∈ tbLa_file, decode method_11_code q.1 = .ok (q.2, xlen q.2) := by decide +kernel
theorem tkDa_file : ∀ q ∈ tbDa_file, decode prog_1_method_12_code q.1 = .ok (q.2, xlen q.2) := by decide +kernel
theorem tkLa_byteOf : ∀ q ∈ tbLa_byteOf, decode method_12_code q.1 = .ok (q.2, xlen q.2) := by decide +kernel
theorem tkDa_byteOf : ∀ q ∈ tbDa_byteOf, decode prog_1_method_13_code q.1 = .ok (q.2, xlen q.2) := by decide +kernel
theorem tkDa_knownFile : ∀ q ∈ tbDa_knownFile, decode prog_1_method_22_code q.1 = .ok (q.2, xlen q.2) := by decide +kernel
theorem tkLa_archive : ∀ q ∈ tbLa_archive, decode method_13_code q.1 = .ok (q.2, xlen q.2) := by decide +kernel
theorem tkDa_archive : ∀ q ∈ tbDa_archive, decode prog_1_method_14_code q.1 = .ok (q.2, xlen q.2) := by decide +kernel
theorem tkFs_joined : ∀ q ∈ tbFs_joined, decode prog_3_method_5_code q.1 = .ok (q.2, xlen q.2) := by decide +kernel
theorem tkSf_joinedSize : ∀ q ∈ tbSf_joinedSize, decode prog_7_method_3_code q.1 = .ok (q.2, xlen q.2) := by decide +kernel
theorem tkSf_joined : ∀ q ∈ tbSf_joined, decode prog_7_method_4_code q.1 = .ok (q.2, xlen q.2) := by decide +kernel
theorem tsSf_joined_9 : decode prog_7_method_4_code 9 = .ok (.tableswitch 44 0 2 #[27, 32, 38], 27) := by decide +kernel
theorem tkLa_sum : ∀ q ∈ tbLa_sum, decode method_14_code q.1 = .ok (q.2, xlen q.2) := by decide +kernel
theorem tkDa_sum : ∀ q ∈ tbDa_sum, decode prog_1_method_19_code q.1 = .ok (q.2, xlen q.2) := by decide +kernel
theorem tkMo_init : ∀ q ∈ tbMo_init, decode prog_12_method_1_code q.1 = .ok (q.2, xlen q.2) := by decide +kernel
theorem tkMo_thrown : ∀ q ∈ tbMo_thrown, decode prog_12_method_2_code q.1 = .ok (q.2, xlen q.2) := by decide +kernel
theorem tkMo_clear : ∀ q ∈ tbMo_clear, decode prog_12_method_3_code q.1 = .ok (q.2, xlen q.2) := by decide +kernel
theorem tkMo_tool : ∀ q ∈ tbMo_tool, decode prog_12_method_9_code q.1 = .ok (q.2, xlen q.2) := by decide +kernel
theorem tkMo_isDiameter : ∀ q ∈ tbMo_isDiameter, decode prog_12_method_7_code q.1 = .ok (q.2, xlen q.2) := by decide +kernel
theorem tkMo_addTool : ∀ q ∈ tbMo_addTool, decode prog_12_method_8_code q.1 = .ok (q.2, xlen q.2) := by decide +kernel
theorem tkMo_hole : ∀ q ∈ tbMo_hole, decode prog_12_method_11_code q.1 = .ok (q.2, xlen q.2) := by decide +kernel
end
section
/-! decode rows (by program) -/
theorem tkMo_isTool : ∀ q ∈ tbMo_isTool, decode prog_12_method_6_code q.1 = .ok (q.2, xlen q.2) := by decide +kernel
theorem tkMo_isLayer : ∀ q ∈ tbMo_isLayer, decode prog_12_method_5_code q.1 = .ok (q.2, xlen q.2) := by decide +kernel
theorem tkMo_isPlace : ∀ q ∈ tbMo_isPlace, decode prog_12_method_4_code q.1 = .ok (q.2, xlen q.2) := by decide +kernel
theorem tkMo_addHit : ∀ q ∈ tbMo_addHit, decode prog_12_method_10_code q.1 = .ok (q.2, xlen q.2) := by decide +kernel
theorem tkMo_slot : ∀ q ∈ tbMo_slot, decode prog_12_method_12_code q.1 = .ok (q.2, xlen q.2) := by decide +kernel
theorem tkMo_at : ∀ q ∈ tbMo_at, decode prog_12_method_13_code q.1 = .ok (q.2, xlen q.2) := by decide +kernel
theorem tsMo_at_43 : decode prog_12_method_13_code 43 = .ok (.tableswitch 93 0 6 #[41, 49, 56, 63, 70, 77, 85], 41) := by decide +kernel
theorem tkMo_order : ∀ q ∈ tbMo_order, decode prog_12_method_21_code q.1 = .ok (q.2, xlen q.2) := by decide +kernel
theorem tkMo_findOrder : ∀ q ∈ tbMo_findOrder, decode prog_12_method_20_code q.1 = .ok (q.2, xlen q.2) := by decide +kernel
theorem tkMo_collect : ∀ q ∈ tbMo_collect, decode prog_12_method_17_code q.1 = .ok (q.2, xlen q.2) := by decide +kernel
theorem tkMo_orderNearest : ∀ q ∈ tbMo_orderNearest, decode prog_12_method_19_code q.1 = .ok (q.2, xlen q.2) := by decide +kernel
theorem tkMo_way : ∀ q ∈ tbMo_way, decode prog_12_method_16_code q.1 = .ok (q.2, xlen q.2) := by decide +kernel
theorem tkMo_wayOf : ∀ q ∈ tbMo_wayOf, decode prog_12_method_15_code q.1 = .ok (q.2, xlen q.2) := by decide +kernel
theorem tkMo_size : ∀ q ∈ tbMo_size, decode prog_12_method_14_code q.1 = .ok (q.2, xlen q.2) := by decide +kernel
theorem tkMo_orderExactly : ∀ q ∈ tbMo_orderExactly, decode prog_12_method_18_code q.1 = .ok (q.2, xlen q.2) := by decide +kernel
theorem tkMo_travel : ∀ q ∈ tbMo_travel, decode prog_12_method_22_code q.1 = .ok (q.2, xlen q.2) := by decide +kernel
theorem tkMo_proved : ∀ q ∈ tbMo_proved, decode prog_12_method_23_code q.1 = .ok (q.2, xlen q.2) := by decide +kernel
end
section
/-! decode rows (by program) -/
theorem tkMo_write : ∀ q ∈ tbMo_write, decode prog_12_method_30_code q.1 = .ok (q.2, xlen q.2) := by decide +kernel
theorem tkMo_layText : ∀ q ∈ tbMo_layText, decode prog_12_method_29_code q.1 = .ok (q.2, xlen q.2) := by decide +kernel
theorem tkMo_say : ∀ q ∈ tbMo_say, decode prog_12_method_24_code q.1 = .ok (q.2, xlen q.2) := by decide +kernel
theorem tkMo_sayNumber : ∀ q ∈ tbMo_sayNumber, decode prog_12_method_25_code q.1 = .ok (q.2, xlen q.2) := by decide +kernel
theorem tkMo_sayTool : ∀ q ∈ tbMo_sayTool, decode prog_12_method_28_code q.1 = .ok (q.2, xlen q.2) := by decide +kernel
theorem tkMo_sayHit : ∀ q ∈ tbMo_sayHit, decode prog_12_method_27_code q.1 = .ok (q.2, xlen q.2) := by decide +kernel
theorem tkMo_sayPlace : ∀ q ∈ tbMo_sayPlace, decode prog_12_method_26_code q.1 = .ok (q.2, xlen q.2) := by decide +kernel
theorem tkMo_unit : ∀ q ∈ tbMo_unit, decode prog_12_method_31_code q.1 = .ok (q.2, xlen q.2) := by decide +kernel
theorem tkMo_read : ∀ q ∈ tbMo_read, decode prog_12_method_45_code q.1 = .ok (q.2, xlen q.2) := by decide +kernel
theorem tkMo_readLine : ∀ q ∈ tbMo_readLine, decode prog_12_method_44_code q.1 = .ok (q.2, xlen q.2) := by decide +kernel
theorem tkMo_expect : ∀ q ∈ tbMo_expect, decode prog_12_method_33_code q.1 = .ok (q.2, xlen q.2) := by decide +kernel
theorem tkMo_now : ∀ q ∈ tbMo_now, decode prog_12_method_32_code q.1 = .ok (q.2, xlen q.2) := by decide +kernel
theorem tkMo_endLine : ∀ q ∈ tbMo_endLine, decode prog_12_method_37_code q.1 = .ok (q.2, xlen q.2) := by decide +kernel
theorem tkMo_readFirst : ∀ q ∈ tbMo_readFirst, decode prog_12_method_41_code q.1 = .ok (q.2, xlen q.2) := by decide +kernel
theorem tkMo_readLayers : ∀ q ∈ tbMo_readLayers, decode prog_12_method_39_code q.1 = .ok (q.2, xlen q.2) := by decide +kernel
theorem tkMo_whole : ∀ q ∈ tbMo_whole, decode prog_12_method_36_code q.1 = .ok (q.2, xlen q.2) := by decide +kernel
end
section
/-! decode rows (by program) -/
theorem tkMo_isDigit : ∀ q ∈ tbMo_isDigit, decode prog_12_method_34_code q.1 = .ok (q.2, xlen q.2) := by decide +kernel
theorem tkMo_must : ∀ q ∈ tbMo_must, decode prog_12_method_38_code q.1 = .ok (q.2, xlen q.2) := by decide +kernel
theorem tkMo_readTool : ∀ q ∈ tbMo_readTool, decode prog_12_method_40_code q.1 = .ok (q.2, xlen q.2) := by decide +kernel
theorem tkMo_readSecond : ∀ q ∈ tbMo_readSecond, decode prog_12_method_43_code q.1 = .ok (q.2, xlen q.2) := by decide +kernel
theorem tkMo_readHit : ∀ q ∈ tbMo_readHit, decode prog_12_method_42_code q.1 = .ok (q.2, xlen q.2) := by decide +kernel
theorem tkMo_number : ∀ q ∈ tbMo_number, decode prog_12_method_35_code q.1 = .ok (q.2, xlen q.2) := by decide +kernel
theorem tkMo_file : ∀ q ∈ tbMo_file, decode prog_12_method_47_code q.1 = .ok (q.2, xlen q.2) := by decide +kernel
theorem tkMo_fileWith : ∀ q ∈ tbMo_fileWith, decode prog_12_method_46_code q.1 = .ok (q.2, xlen q.2) := by decide +kernel
theorem tkMo_byteOf : ∀ q ∈ tbMo_byteOf, decode prog_12_method_50_code q.1 = .ok (q.2, xlen q.2) := by decide +kernel
theorem tkMo_isFile : ∀ q ∈ tbMo_isFile, decode prog_12_method_48_code q.1 = .ok (q.2, xlen q.2) := by decide +kernel
theorem tkMo_isByte : ∀ q ∈ tbMo_isByte, decode prog_12_method_49_code q.1 = .ok (q.2, xlen q.2) := by decide +kernel
theorem tkMo_sum : ∀ q ∈ tbMo_sum, decode prog_12_method_52_code q.1 = .ok (q.2, xlen q.2) := by decide +kernel
theorem tkMo_sumOf : ∀ q ∈ tbMo_sumOf, decode prog_12_method_51_code q.1 = .ok (q.2, xlen q.2) := by decide +kernel
theorem tkMo_archive : ∀ q ∈ tbMo_archive, decode prog_12_method_54_code q.1 = .ok (q.2, xlen q.2) := by decide +kernel
theorem tkMo_put : ∀ q ∈ tbMo_put, decode prog_12_method_53_code q.1 = .ok (q.2, xlen q.2) := by decide +kernel
theorem tkMo_feed : ∀ q ∈ tbMo_feed, decode prog_12_method_55_code q.1 = .ok (q.2, xlen q.2) := by decide +kernel
theorem tkMo_open : ∀ q ∈ tbMo_open, decode prog_12_method_57_code q.1 = .ok (q.2, xlen q.2) := by decide +kernel
theorem tkMo_walk : ∀ q ∈ tbMo_walk, decode prog_12_method_56_code q.1 = .ok (q.2, xlen q.2) := by decide +kernel
end
section
/-! decode rows (by program) -/
theorem tkMo_agrees : ∀ q ∈ tbMo_agrees, decode prog_12_method_59_code q.1 = .ok (q.2, xlen q.2) := by decide +kernel
theorem tkMo_isText : ∀ q ∈ tbMo_isText, decode prog_12_method_58_code q.1 = .ok (q.2, xlen q.2) := by decide +kernel
theorem tkMo_told : ∀ q ∈ tbMo_told, decode prog_12_method_60_code q.1 = .ok (q.2, xlen q.2) := by decide +kernel
end
section
/-! OWN FRAME 11: Math, arraycopy, Arrays.copyOf -/
theorem gMA : (Cond.static Lib.Math.max.name ∈ gTB ∧ Cond.static Lib.Math.min.name ∈ gTB ∧ Cond.static Lib.Math.abs.name ∈ gTB) ∧ Cond.initialized "java/lang/Math" ∈ gTB ∧ Cond.code Lib.Math.max.name Lib.Math.max.code 2 (some .int) ∈ gTB ∧ Cond.code Lib.Math.min.name Lib.Math.min.code 2 (some .int) ∈ gTB ∧ Cond.code Lib.Math.abs.name Lib.Math.abs.code 1 (some .int) ∈ gTB := by decide +kernel
theorem gAY : Cond.native arraycopyName ∈ gTB ∧ Cond.static arraycopyName ∈ gTB ∧ Cond.initialized "java/lang/System" ∈ gTB := by decide +kernel
section XJ
variable {l : Launch} {M : xM} {D : xD} {R : Room} {A : Nat → Prop} {Q : Array Value → State → Outcome → State → Prop} {mc ms pc k n : Nat} {lv : List (Nat × Value)} {rest : List Value} {S : List va_W}
theorem Ex.mmax {ix : Nat} {x y : Int32} (hf : xfe M.2.2.2.2.2 pc = some (.invokestatic ix)) (hlk : Cond.methodLink M.2.1.cls ix Lib.Math.max.name ∈ gTB) (hR : 1 ≤ R.frames) (hR2 : (rest.map fun v => v.category).sum + 13 ≤ R.locals) (h1 : k ≤ R.cells) (h2 : n ≤ R.slots) (kk : Ex l M D R A Q mc ms (pc + 3) lv (.int (if x < y then y else x) :: rest) S k n) : Ex l M D R A Q mc ms pc lv (.int y :: .int x :: rest) S k n := by
  intro p e s m args below meth c H locs ls F hS hP hD hl
  obtain ⟨ho, hx, hb, hml, -, hown, hts, -, hin, hK, hN, hX, hA, htb⟩ := id F
  have hd := htb _ (xfe_mem _ _ _ hf)
  exact va_mmax hx hb (hml.trans hl.1.symm) hown (hts _ hlk) (hts _ gMA.1.1) (hts _ gMA.2.1) (hts _ gMA.2.2.1) hR hR2 h1 h2 hd (kk p e s m args below meth c H locs ls F hS hP hD hl)
theorem Ex.mmin {ix : Nat} {x y : Int32} (hf : xfe M.2.2.2.2.2 pc = some (.invokestatic ix)) (hlk : Cond.methodLink M.2.1.cls ix Lib.Math.min.name ∈ gTB) (hR : 1 ≤ R.frames) (hR2 : (rest.map fun v => v.category).sum + 13 ≤ R.locals) (h1 : k ≤ R.cells) (h2 : n ≤ R.slots) (kk : Ex l M D R A Q mc ms (pc + 3) lv (.int (if y < x then y else x) :: rest) S k n) : Ex l M D R A Q mc ms pc lv (.int y :: .int x :: rest) S k n := by
  intro p e s m args below meth c H locs ls F hS hP hD hl
  obtain ⟨ho, hx, hb, hml, -, hown, hts, -, hin, hK, hN, hX, hA, htb⟩ := id F
  have hd := htb _ (xfe_mem _ _ _ hf)
  exact va_mmin hx hb (hml.trans hl.1.symm) hown (hts _ hlk) (hts _ gMA.1.2.1) (hts _ gMA.2.1) (hts _ gMA.2.2.2.1) hR hR2 h1 h2 hd (kk p e s m args below meth c H locs ls F hS hP hD hl)
theorem Ex.mabs {ix : Nat} {x : Int32} (hf : xfe M.2.2.2.2.2 pc = some (.invokestatic ix)) (hlk : Cond.methodLink M.2.1.cls ix Lib.Math.abs.name ∈ gTB) (hR : 1 ≤ R.frames) (hR2 : (rest.map fun v => v.category).sum + 13 ≤ R.locals) (h1 : k ≤ R.cells) (h2 : n ≤ R.slots) (kk : Ex l M D R A Q mc ms (pc + 3) lv (.int (if 0 ≤ x then x else 0 - x) :: rest) S k n) : Ex l M D R A Q mc ms pc lv (.int x :: rest) S k n := by
  intro p e s m args below meth c H locs ls F hS hP hD hl
  obtain ⟨ho, hx, hb, hml, -, hown, hts, -, hin, hK, hN, hX, hA, htb⟩ := id F
  have hd := htb _ (xfe_mem _ _ _ hf)
  exact va_mabs hx hb (hml.trans hl.1.symm) hown (hts _ hlk) (hts _ gMA.1.2.2) (hts _ gMA.2.1) (hts _ gMA.2.2.2.2) hR hR2 h1 h2 hd (kk p e s m args below meth c H locs ls F hS hP hD hl)
/-- System.arraycopy(src, 0, dst, 0, c) of two int arrays -/
theorem Ex.acp {ix : Nat} (i0 j0 i1 j1 cn : Nat) {a0 a1 n0 n1 : Nat} {f g : Nat → Int32} {C0 C1 : va_W} {x : Int32} (hf : xfe M.2.2.2.2.2 pc = some (.invokestatic ix)) (hlk : Cond.methodLink M.2.1.cls ix arraycopyName ∈ gTB) (hi0 : S[i0]? = some C0) (hj0 : C0[j0]? = some (a0, .inl (D.2.2.1 0, n0, .inl f))) (hi1 : S[i1]? = some C1) (hj1 : C1[j1]? = some (a1, .inl (D.2.2.1 0, n1, .inl g)))
    (hx9 : x.toInt = cn) (h0 : cn ≤ n0) (h1 : cn ≤ n1) (hR : 1 ≤ R.frames) (hR2 : (rest.map fun v => v.category).sum + 40 ≤ R.locals) (kk : Ex l M D R A Q mc ms (pc + 3) lv rest (S.set i1 (C1.set j1 (a1, .inl (D.2.2.1 0, n1, .inl (va_cpy f g 0 0 cn))))) k n) : Ex l M D R A Q mc ms pc lv (.int x :: .int (Int32.ofInt 0) :: .ref a1 :: .int (Int32.ofInt 0) :: .ref a0 :: rest) S k n := by
  intro p e s m args below meth c H locs ls F hS hP hD hl
  obtain ⟨ho, hx, hb, hml, -, hown, hts, -, hin, hK, hN, hX, hA, htb⟩ := id F
  have hd := htb _ (xfe_mem _ _ _ hf)
  obtain ⟨q0, hq0, -⟩ := fl_pos S i0 j0 C0 _ hi0 hj0
  obtain ⟨q1, hq1, hset⟩ := fl_pos S i1 j1 C1 _ hi1 hj1
  have hz : (Int32.ofInt 0).toNatClampNeg = 0 := by decide
  refine va_copyi hx hb (hml.trans hl.1.symm) hown (hts _ hlk) (hts _ gAY.1) (hts _ gAY.2.1) (hts _ gAY.2.2) hK hP hD hS q0 q1 0 0 hq0 hq1 rfl rfl rfl (by decide) (by decide) (by rw [Int32.lt_iff_toInt_lt, hx9]; simp) (by rw [hz, clamp_int hx9]; omega) (by rw [hz, clamp_int hx9]; omega) (fun _ _ => rfl) hR ?_ hd (fun H1 locs1 hP1 hD1 hS1 => ?_)
  · have : nativeFrameWords "java/lang/System" "arraycopy" 5 + 11 ≤ 40 := by decide
    omega
  · rw [clamp_int hx9, hz, hset] at hP1 hD1
    exact kk p e s m args below meth c H1 locs1 ls F hS1 hP1 hD1 hl
end XJ
def tbCopy : xT := [(0, .iload_n 1), (1, .aload_n 0), (2, .arraylength), (3, .if_icmp .ne 11), (14, .iload_n 1), (15, .newarray .int), (17, .astore_n 2), (18, .aload_n 0), (19, .iconst 0), (20, .aload_n 2), (21, .iconst 0), (22, .aload_n 0), (23, .arraylength), (24, .iload_n 1), (25, .invokestatic 304), (28, .invokestatic 150), (31, .aload_n 2), (32, .areturn)]
abbrev mCopy : xM := (14, ⟨"java/util/Arrays", "copyOf", "([II)[I"⟩, prog_24_method_123_code, 3, some (.array .int), tbCopy)
theorem tkCopy : ∀ q ∈ tbCopy, decode prog_24_method_123_code q.1 = .ok (q.2, xlen q.2) := by decide +kernel
theorem lcCopy : LkS mCopy 2 := lcJAr_copyOf
theorem lk_copy_min : Cond.methodLink "java/util/Arrays" 304 Lib.Math.min.name ∈ gTB := gw 222 (by decide +kernel) rfl
theorem lk_copy_acp : Cond.methodLink "java/util/Arrays" 150 arraycopyName ∈ gTB := gw 225 (by decide +kernel) rfl
theorem Ex.aretA {l : Launch} {M : xM} {D : xD} {R : Room} {A : Nat → Prop} {mc ms pc k n : Nat} {lv : List (Nat × Value)} {S S' : List va_W} {v : Value} {ct : FieldType} {Q0 : Option Value → List va_W → Prop} (hf : xfe M.2.2.2.2.2 pc = some .areturn) (hr9 : M.2.2.2.2.1 = some (.array ct)) (hv : v = .null ∨ ∃ a, v = .ref a) (hk : k ≤ mc) (hn : n ≤ ms) (hS9 : S.flatten = S'.flatten) (hq : Q0 (some v) S') : Ex l M D R A (xQ D A Q0) mc ms pc lv [v] S k n := by
  intro p e s m args below meth c H locs ls F hS hP hD hl
  obtain ⟨ho, hx, hb, -, hr, hown, hts, hlocks, hin, hK, hN, hX, hA, htb⟩ := id F
  have hd := htb _ (xfe_mem _ _ _ hf)
  refine W.widen hk hn ?_
  rw [hS9] at hP hD
  exact W.x (W.aret hx hb (hr.trans hr9) (Or.inr ⟨_, rfl⟩) hv (fun t ht hW => ⟨⟨_, S', rfl, hq, by rw [ht]; exact hP, hD⟩, hS.F ht⟩) hS.2.2 hd)
/-- Arrays.copyOf to a greater length -/
theorem ct_copy {l : Launch} {D : xD} {R : Room} {a cap N : Nat} {f : Nat → Int32} (h1 : cap < N) (h2 : N ≤ 1000000) (hf : 1 ≤ R.frames) (hl : 40 ≤ R.locals) (hc : 1 ≤ R.cells) (hs : N ≤ R.slots) : Ct l mCopy D R [.ref a, .int (nI N)] [[(a, .inl (D.2.2.1 0, cap, .inl f))]] (fun v S => ∃ q, v = some (.ref q) ∧ S = [[(a, .inl (D.2.2.1 0, cap, .inl f))], [(q, .inl (D.2.2.1 0, N, .inl (va_cpy f (fun _ => 0) 0 0 cap)))]]) := by
  refine Ct.of rfl (by decide) tkCopy (Nat.le_of_ble_eq_true rfl) (fun A => ?_)
  refine Ex.p rfl ?_
  refine Ex.p rfl ?_
  refine Ex.alen 0 0 0 rfl rfl rfl rfl ?_
  refine Ex.br rfl (fun c1 => ?_) (fun c1 => ?_)
  · refine Ex.p rfl ?_
    refine Ex.newi (N := N) rfl (nI_toInt (by omega)) h2 (by omega) (by omega) (fun q => ?_)
    refine Ex.p rfl ?_
    refine Ex.p rfl ?_
    refine Ex.p rfl ?_
    refine Ex.p rfl ?_
    refine Ex.p rfl ?_
    refine Ex.p rfl ?_
    refine Ex.alen 0 0 0 rfl rfl rfl rfl ?_
    refine Ex.p rfl ?_
    refine Ex.mmin rfl lk_copy_min hf (by simp [Value.category]; omega) (by omega) (by omega) ?_
    rw [if_neg (by rw [Int32.lt_iff_toInt_lt, nI_toInt (by omega), nI_toInt (by simp; omega)]; simp; omega)]
    refine Ex.acp 0 0 1 0 cap rfl lk_copy_acp rfl rfl rfl rfl (nI_toInt (by omega)) (Nat.le_refl _) (by omega) hf (by simp; omega) ?_
    refine Ex.p rfl ?_
    exact Ex.aretA (S' := [[(a, .inl (D.2.2.1 0, cap, .inl f))], [(q, .inl (D.2.2.1 0, N, .inl (va_cpy f (fun _ => 0) 0 0 cap)))]]) rfl rfl (Or.inr ⟨_, rfl⟩) (by omega) (by omega) rfl ⟨q, rfl, rfl⟩
  · exact absurd (fun e => by have := (nI_eq (a := N) (b := cap) (by omega) (by omega)).mp e; omega) c1
end
section
/-! OWN FRAME 12: segments forgotten or put in another order -/
theorem Ex.sub {l : Launch} {M : xM} {D : xD} {R : Room} {A : Nat → Prop} {Q : Array Value → State → Outcome → State → Prop} {mc ms pc k n : Nat} {lv : List (Nat × Value)} {st : List Value} {S S' : List va_W} (is : List Nat) (hp : pk S is S') (hn : va_nd is = true) (kk : Ex l M D R A Q mc ms pc lv st S' k n) : Ex l M D R A Q mc ms pc lv st S k n := by
  intro p e s m args below meth c H locs ls F hS hP hD hl
  rw [va_P_iff] at hP
  rw [va_D_iff] at hD
  exact kk p e s m args below meth c H locs ls F hS (va_P_iff.mpr fun q hq => hP q (hp.sub hq)) (va_D_iff.mpr ⟨sg_iff.mpr (hp.sg hn (sg_iff.mp hD.1)), fun q hq => hD.2 q (hp.sub hq)⟩) hl
/-- other segments of the same cells -/
theorem Ex.seg {l : Launch} {M : xM} {D : xD} {R : Room} {A : Nat → Prop} {Q : Array Value → State → Outcome → State → Prop} {mc ms pc k n : Nat} {lv : List (Nat × Value)} {st : List Value} {S S' : List va_W} (h2 : S.flatten = S'.flatten) (kk : Ex l M D R A Q mc ms pc lv st S' k n) : Ex l M D R A Q mc ms pc lv st S k n := by
  intro p e s m args below meth c H locs ls F hS hP hD hl
  exact kk p e s m args below meth c H locs ls F hS (h2 ▸ hP) (h2 ▸ hD) hl
/-- the locals written again -/
theorem Ex.lv {l : Launch} {M : xM} {D : xD} {R : Room} {A : Nat → Prop} {Q : Array Value → State → Outcome → State → Prop} {mc ms pc k n : Nat} {lv lv' : List (Nat × Value)} {st : List Value} {S : List va_W} (h1 : ∀ q ∈ lv', q ∈ lv) (kk : Ex l M D R A Q mc ms pc lv' st S k n) : Ex l M D R A Q mc ms pc lv st S k n := by
  intro p e s m args below meth c H locs ls F hS hP hD hl
  exact kk p e s m args below meth c H locs ls F hS hP hD ⟨hl.1, hl.2.1, fun q hq => hl.2.2 q (h1 q hq)⟩
end
section
/-! OWN FRAME 13: calls that need no cell; String constants -/
section XS
variable {l : Launch} {M : xM} {D : xD} {R : Room} {A : Nat → Prop} {Q : Array Value → State → Outcome → State → Prop} {mc ms pc k n : Nat} {lv : List (Nat × Value)} {S S' : List va_W} {st rest : List Value}
theorem Ex.cs0 {Mc : xM} {Rc : Room} {ix : Nat} {As rest st0 : List Value} {Q0 : Option Value → List va_W → Prop} (hct : Ct l Mc D Rc As [] Q0) (hf : xfe M.2.2.2.2.2 pc = some (.invokestatic ix)) (hlk : Lk M.2.1.cls ix Mc) (hm : LkS Mc As.length)
    (hst : st0 = As.reverse ++ rest) (hR : Rc.frames + 1 ≤ R.frames ∧ 8 + (Mc.2.2.2.1 + 11) + Rc.locals ≤ R.locals) (hrm : (rest.map fun v => v.category).sum ≤ 8) (h1 : k + Rc.cells ≤ R.cells) (h2 : n + Rc.slots ≤ R.slots)
    (kk : ∀ (v : Option Value) (S1 : List va_W), Q0 v S1 → Ex l M D R A Q mc ms (pc + 3) lv (v.toList ++ rest) S (k + Rc.cells) (n + Rc.slots)) : Ex l M D R A Q mc ms pc lv st0 S k n := by
  intro p e s m args below meth c H locs ls F hS hP hD hl
  obtain ⟨ho, hx, hb, hml, -, hown, hts, -, hin, hK, hN, hX, hA, htb⟩ := id F
  have hd := htb _ (xfe_mem _ _ _ hf)
  obtain ⟨hpre, hsub⟩ := x_pre (S := S) (is := []) (Sc := []) (av := As) F hS hP hD rfl rfl
  have hcb := callB_of (ret := Mc.2.2.2.2.1) As.length hts hm.1.good rfl rfl rfl (hts _ hm.1.1) (hts _ hlk) hm.1.2.2 hR
  refine x_call (va_runS (As := As) (rest := rest) ⟨hx, hb, hml, hown, hts⟩ (hct H.size) ⟨hcb, hts _ hm.2⟩ ⟨xP_blind, hpre⟩ rfl rfl hl.1 hst (lv_room hrm) hd ⟨h1, h2⟩) hS hsub (fun v S1 H1 locs1 hq hP1 hD1 hk1 hS1 => ?_)
  have hun : ∀ q : Nat, q < H.size → H1[q]? = H[q]? := fun q h => hk1 q h (by
    rintro (⟨k2, e2, h3⟩ | h3)
    · simp at h3
    · omega)
  exact kk v S1 hq p e s m args below meth c H1 locs1 ls F hS1 (va_P_iff.mpr fun q hq => (va_P_iff.mp hP q hq).kept (hun _ (va_P_iff.mp hP q hq).lt)) hD hl
theorem Ex.cs0N {Mc : xM} {Rc : Room} {ix : Nat} {As rest st0 : List Value} {Q0 : Option Value → List va_W → Prop} (hct : Ct l Mc D Rc As [] Q0) (hf : xfe M.2.2.2.2.2 pc = some (.invokestatic ix)) (hlk : LkN M.2.1.cls ix Mc) (hm : LkS Mc As.length)
    (hst : st0 = As.reverse ++ rest) (hR : Rc.frames + 1 ≤ R.frames ∧ 8 + (Mc.2.2.2.1 + 11) + Rc.locals ≤ R.locals) (hrm : (rest.map fun v => v.category).sum ≤ 8) (h1 : k + Rc.cells ≤ R.cells) (h2 : n + Rc.slots ≤ R.slots)
    (kk : ∀ (v : Option Value) (S1 : List va_W), Q0 v S1 → Ex l M D R A Q mc ms (pc + 3) lv (v.toList ++ rest) S (k + Rc.cells) (n + Rc.slots)) : Ex l M D R A Q mc ms pc lv st0 S k n := by
  intro p e s m args below meth c H locs ls F hS hP hD hl
  obtain ⟨ho, hx, hb, hml, -, hown, hts, -, hin, hK, hN, hX, hA, htb⟩ := id F
  have hd := htb _ (xfe_mem _ _ _ hf)
  obtain ⟨hpre, hsub⟩ := x_pre (S := S) (is := []) (Sc := []) (av := As) F hS hP hD rfl rfl
  have hcb := va_cnB (bytes := Mc.2.2.1) (maxL := Mc.2.2.2.1) (ret := Mc.2.2.2.2.1) As.length hts hm.1.good rfl rfl rfl (hN.1 _ hlk) (hts _ hm.1.1) hm.1.2.2 hR
  refine x_call (va_runSN (As := As) (rest := rest) ⟨hx, hb, hml, hown, hts⟩ (hct H.size) ⟨hcb, hts _ hm.2, trivial⟩ ⟨xP_blind, hpre⟩ rfl rfl hl.1 hst (lv_room hrm) hd ⟨h1, h2⟩) hS hsub (fun v S1 H1 locs1 hq hP1 hD1 hk1 hS1 => ?_)
  have hun : ∀ q : Nat, q < H.size → H1[q]? = H[q]? := fun q h => hk1 q h (by
    rintro (⟨k2, e2, h3⟩ | h3)
    · simp at h3
    · omega)
  exact kk v S1 hq p e s m args below meth c H1 locs1 ls F hS1 (va_P_iff.mpr fun q hq => (va_P_iff.mp hP q hq).kept (hun _ (va_P_iff.mp hP q hq).lt)) hD hl
theorem Ex.cvS {Mc : xM} {Rc : Room} {ix t : Nat} {As rest st0 : List Value} {Q0 : Option Value → List va_W → Prop} (hct : Ct l Mc D Rc (.ref (D.2.2.2.1 t) :: As) [] Q0) (ht : t < gSN) (hcn : Mc.2.1.cls = "java/lang/String") (hf : xfe M.2.2.2.2.2 pc = some (.invokevirtual ix)) (hlk : Lk M.2.1.cls ix Mc) (hm : LkV Mc As.length)
    (hst : st0 = As.reverse ++ .ref (D.2.2.2.1 t) :: rest) (hR : Rc.frames + 1 ≤ R.frames ∧ 8 + (Mc.2.2.2.1 + 11) + Rc.locals ≤ R.locals) (hrm : (rest.map fun v => v.category).sum ≤ 8) (h1 : k + Rc.cells ≤ R.cells) (h2 : n + Rc.slots ≤ R.slots)
    (kk : ∀ (v : Option Value) (S1 : List va_W), Q0 v S1 → Ex l M D R A Q mc ms (pc + 3) lv (v.toList ++ rest) S (k + Rc.cells) (n + Rc.slots)) : Ex l M D R A Q mc ms pc lv st0 S k n := by
  intro p e s m args below meth c H locs ls F hS hP hD hl
  obtain ⟨ho, hx, hb, hml, -, hown, hts, -, hin, hK, hN, hX, hA, htb⟩ := id F
  have hd := htb _ (xfe_mem _ _ _ hf)
  obtain ⟨hpre, hsub⟩ := x_pre (S := S) (is := []) (Sc := []) (av := (.ref (D.2.2.2.1 t) :: As)) F hS hP hD rfl rfl
  have hcb := callB_of (ret := Mc.2.2.2.2.1) As.length hts hm.1.good rfl rfl rfl (hts _ hm.1.1) (hts _ hlk) hm.1.2.2 hR
  refine x_call (va_runV (C := Mc.2.1.cls) (As := As) (rest := rest) ⟨hx, hb, hml, hown, hts⟩ (hct H.size) ⟨hcb, hts _ hm.2.1, hts _ hm.2.2⟩ ⟨xP_blind, by rw [hcn]; exact vk_recv hX.1 ht hS, hpre⟩ rfl rfl hl.1 hst (lv_room hrm) hd ⟨h1, h2⟩) hS hsub (fun v S1 H1 locs1 hq hP1 hD1 hk1 hS1 => ?_)
  have hun : ∀ q : Nat, q < H.size → H1[q]? = H[q]? := fun q h => hk1 q h (by
    rintro (⟨k2, e2, h3⟩ | h3)
    · simp at h3
    · omega)
  exact kk v S1 hq p e s m args below meth c H1 locs1 ls F hS1 (va_P_iff.mpr fun q hq => (va_P_iff.mp hP q hq).kept (hun _ (va_P_iff.mp hP q hq).lt)) hD hl
theorem Ex.gst1 {ix : Nat} (hf : xfe M.2.2.2.2.2 pc = some (.getstatic ix)) (hlk : Cond.fieldLink M.2.1.cls ix "java/lang/String" "COMPACT_STRINGS" "Z" ∈ gTB) (kk : Ex l M D R A Q mc ms (pc + 3) lv (.int 1 :: st) S k n) : Ex l M D R A Q mc ms pc lv st S k n := by
  intro p e s m args below meth c H locs ls F hS hP hD hl
  obtain ⟨ho, hx, hb, hml, -, hown, hts, -, hin, hK, hN, hX, hA, htb⟩ := id F
  have hd := htb _ (xfe_mem _ _ _ hf)
  exact va_gets hx hb hX.2.1 hS hown (hts _ hlk) (fun _ h => h) hd (kk p e s m args below meth c H locs ls F hS hP hD hl)
theorem Ex.gstF {ix : Nat} (hf : xfe M.2.2.2.2.2 pc = some (.getstatic ix)) (hlk : Cond.fieldLink M.2.1.cls ix "jdk/internal/util/Preconditions" "SIOOBE_FORMATTER" "Ljava/util/function/BiFunction;" ∈ gTB) (kk : ∀ w : Option Nat, Ex l M D R A Q mc ms (pc + 3) lv (va_rf w :: st) S k n) : Ex l M D R A Q mc ms pc lv st S k n := by
  intro p e s m args below meth c H locs ls F hS hP hD hl
  obtain ⟨ho, hx, hb, hml, -, hown, hts, -, hin, hK, hN, hX, hA, htb⟩ := id F
  have hd := htb _ (xfe_mem _ _ _ hf)
  rcases hX.2.2.1 with h | ⟨t, h⟩
  · exact va_gets hx hb h hS hown (hts _ hlk) (fun _ h => h) hd (kk none p e s m args below meth c H locs ls F hS hP hD hl)
  · exact va_gets hx hb h hS hown (hts _ hlk) (fun _ h => h) hd (kk (some t) p e s m args below meth c H locs ls F hS hP hD hl)
theorem Ex.sgc {ix t : Nat} (ht : t < gSN) (hf : xfe M.2.2.2.2.2 pc = some (.getfield ix)) (hlk : Cond.fieldLink M.2.1.cls ix "java/lang/String" "coder" "B" ∈ gTB) (kk : Ex l M D R A Q mc ms (pc + 3) lv (.int 0 :: st) S k n) : Ex l M D R A Q mc ms pc lv (.ref (D.2.2.2.1 t) :: st) S k n := by
  intro p e s m args below meth c H locs ls F hS hP hD hl
  obtain ⟨ho, hx, hb, hml, -, hown, hts, -, hin, hK, hN, hX, hA, htb⟩ := id F
  have hd := htb _ (xfe_mem _ _ _ hf)
  exact vk_getf hx hb (hX.1.1 t ht).2.1 hS hown (hts _ hlk) (fun _ h => h) hd (kk p e s m args below meth c H locs ls F hS hP hD hl)
theorem Ex.sgv {ix t : Nat} (ht : t < gSN) (hf : xfe M.2.2.2.2.2 pc = some (.getfield ix)) (hlk : Cond.fieldLink M.2.1.cls ix "java/lang/String" "value" "[B" ∈ gTB) (kk : Ex l M D R A Q mc ms (pc + 3) lv (.ref (D.2.2.2.2 t) :: st) S k n) : Ex l M D R A Q mc ms pc lv (.ref (D.2.2.2.1 t) :: st) S k n := by
  intro p e s m args below meth c H locs ls F hS hP hD hl
  obtain ⟨ho, hx, hb, hml, -, hown, hts, -, hin, hK, hN, hX, hA, htb⟩ := id F
  have hd := htb _ (xfe_mem _ _ _ hf)
  exact vk_getf hx hb (hX.1.1 t ht).2.2.1 hS hown (hts _ hlk) (fun _ h => h) hd (kk p e s m args below meth c H locs ls F hS hP hD hl)
theorem Ex.slen {t : Nat} (ht : t < gSN) (hf : xfe M.2.2.2.2.2 pc = some .arraylength) (kk : Ex l M D R A Q mc ms (pc + 1) lv (.int (nI (gSL.getD t 0)) :: st) S k n) : Ex l M D R A Q mc ms pc lv (.ref (D.2.2.2.2 t) :: st) S k n := by
  intro p e s m args below meth c H locs ls F hS hP hD hl
  obtain ⟨ho, hx, hb, hml, -, hown, hts, -, hin, hK, hN, hX, hA, htb⟩ := id F
  have hd := htb _ (xfe_mem _ _ _ hf)
  exact va_tlen hx hb (hX.1.1 t ht).2.2.2 hS rfl hd (kk p e s m args below meth c H locs ls F hS hP hD hl)
theorem Ex.sbl {t : Nat} (j : Nat) {x : Int32} (ht : t < gSN) (hf : xfe M.2.2.2.2.2 pc = some .baload) (hx9 : x.toInt = j) (hj : j < gSL.getD t 0) (kk : Ex l M D R A Q mc ms (pc + 1) lv (.int ((gSB.getD t []).getD j 0) :: st) S k n) : Ex l M D R A Q mc ms pc lv (.int x :: .ref (D.2.2.2.2 t) :: st) S k n := by
  intro p e s m args below meth c H locs ls F hS hP hD hl
  obtain ⟨ho, hx, hb, hml, -, hown, hts, -, hin, hK, hN, hX, hA, htb⟩ := id F
  have hd := htb _ (xfe_mem _ _ _ hf)
  exact va_tb hx hb (hX.1.1 t ht).2.2.2 hS (vp_in_int hx9 hj) (by rw [clamp_int hx9]) hd (kk p e s m args below meth c H locs ls F hS hP hD hl)
theorem Ex.nret {v : Int32} {ty : FieldType} {Q0 : Option Value → List va_W → Prop} (hf : xfe M.2.2.2.2.2 pc = some .ireturn) (hr9 : M.2.2.2.2.1 = some ty) (hv : narrow ty (.int v) = .int v) (hk : k ≤ mc) (hn : n ≤ ms) (hS9 : S.flatten = S'.flatten) (hq : Q0 (some (.int v)) S') : Ex l M D R A (xQ D A Q0) mc ms pc lv [.int v] S k n := by
  intro p e s m args below meth c H locs ls F hS hP hD hl
  obtain ⟨ho, hx, hb, -, hr, hown, hts, hlocks, hin, hK, hN, hX, hA, htb⟩ := id F
  have hd := htb _ (xfe_mem _ _ _ hf)
  refine W.widen hk hn ?_
  rw [hS9] at hP hD
  exact W.x (W.zret hx hb (hr.trans hr9) hv (fun t ht hW => ⟨⟨_, S', rfl, hq, by rw [ht]; exact hP, hD⟩, hS.F ht⟩) hS.2.2 hd)
end XS
end
section
/-! THE CLASS Row: a limit L, numbers xs in the first places of an array of cap places -/
abbrev sRow (D : xD) (r arr cap : Nat) (f : Nat → Int32) (L n : Nat) : va_W := [(r, .inr (5, [.int (nI L), .ref arr, .int (nI n)])), (arr, .inl (D.2.2.1 0, cap, .inl f))]
def IsRow (D : xD) (r L cap : Nat) (xs : List Int32) (C : va_W) : Prop := ∃ (arr : Nat) (f : Nat → Int32), C = sRow D r arr cap f L xs.length ∧ xs.length ≤ cap ∧ xs.length ≤ L ∧ 8 ≤ cap ∧ cap ≤ 10000 ∧ L ≤ 5000 ∧ ∀ (j : Nat) (h : j < xs.length), f j = xs[j]
def rget (xs : List Int32) (i : Int32) : Int32 := if 0 ≤ i.toInt ∧ i.toInt < xs.length then xs.getD i.toInt.toNat 0 else -1
theorem i0_toInt : (0 : Int32).toInt = 0 := by decide
section RO
variable {l : Launch} {D : xD} {R : Room}
/-- Row(limit) -/
theorem ct_Ro_init {r L : Nat} (hL : L ≤ 5000) (hf : 1 ≤ R.frames) (hl : 13 ≤ R.locals) (hc : 1 ≤ R.cells) (hs : 8 ≤ R.slots) : Ct l mRo_init D R [.ref r, .int (nI L)] [[(r, .inr (5, gdf 5))]] (fun v S => v = none ∧ ∃ C, S = [C] ∧ IsRow D r L 8 [] C) := by
  refine Ct.of rfl (by decide) tkRo_init (Nat.le_of_ble_eq_true rfl) (fun A => ?_)
  refine Ex.p rfl ?_
  refine Ex.oi rfl lk_5_3 hf (by simp; omega) ?_
  refine Ex.p rfl ?_
  refine Ex.p rfl ?_
  refine Ex.pfF 0 0 rfl rfl rfl rfl rfl rfl rfl rfl ?_
  refine Ex.p rfl ?_
  refine Ex.p rfl ?_
  refine Ex.newi (N := 8) rfl rfl (by decide) (by omega) (by omega) (fun q => ?_)
  refine Ex.pf 0 0 rfl rfl rfl rfl rfl rfl ?_
  refine Ex.vret (S' := [sRow D r q 8 (fun _ => 0) L 0]) rfl rfl (by omega) (by omega) rfl ⟨rfl, _, rfl, q, _, rfl, ?_⟩
  simp
  exact hL
/-- Row.empty -/
theorem ct_Ro_empty {r L cap : Nat} {xs : List Int32} {C : va_W} (h : IsRow D r L cap xs C) : Ct l mRo_empty D R [.ref r] [C] (fun v S => v = none ∧ ∃ C', S = [C'] ∧ IsRow D r L cap [] C') := by
  obtain ⟨arr, f, rfl, h1, h2, h3, h4, h5, h6⟩ := h
  refine Ct.of rfl (by decide) tkRo_empty (Nat.le_of_ble_eq_true rfl) (fun A => ?_)
  refine Ex.p rfl ?_
  refine Ex.p rfl ?_
  refine Ex.pf 0 0 rfl rfl rfl rfl rfl rfl ?_
  refine Ex.vret (S' := [sRow D r arr cap f L 0]) rfl rfl (Nat.zero_le _) (Nat.zero_le _) rfl ⟨rfl, _, rfl, arr, f, rfl, ?_⟩
  simp
  exact ⟨h3, h4, h5⟩
/-- Row.get -/
theorem ct_Ro_get {r L cap : Nat} {xs : List Int32} {C : va_W} {i : Int32} (h : IsRow D r L cap xs C) : Ct l mRo_get D R [.ref r, .int i] [C] (fun v S => v = some (.int (rget xs i)) ∧ S = [C]) := by
  obtain ⟨arr, f, rfl, h1, h2, h3, h4, h5, h6⟩ := h
  refine Ct.of rfl (by decide) tkRo_get (Nat.le_of_ble_eq_true rfl) (fun A => ?_)
  refine Ex.p rfl ?_
  refine Ex.br rfl (fun c1 => ?_) (fun c1 => ?_)
  · refine Ex.p rfl ?_
    refine Ex.iret rfl rfl (Nat.zero_le _) (Nat.zero_le _) rfl ⟨?_, rfl⟩
    rw [Int32.lt_iff_toInt_lt, i0_toInt] at c1
    rw [rget, if_neg (by omega)]
    rfl
  · rw [Int32.lt_iff_toInt_lt, i0_toInt] at c1
    refine Ex.p rfl ?_
    refine Ex.p rfl ?_
    refine Ex.gf 0 0 rfl rfl rfl ?_
    refine Ex.br rfl (fun c2 => ?_) (fun c2 => ?_)
    · rw [Int32.le_iff_toInt_le, nI_toInt (by omega)] at c2
      refine Ex.p rfl ?_
      refine Ex.iret rfl rfl (Nat.zero_le _) (Nat.zero_le _) rfl ⟨?_, rfl⟩
      rw [rget, if_neg (by omega)]
      rfl
    · rw [Int32.le_iff_toInt_le, nI_toInt (by omega)] at c2
      refine Ex.p rfl ?_
      refine Ex.gf 0 0 rfl rfl rfl ?_
      refine Ex.p rfl ?_
      refine Ex.ial 0 1 i.toInt.toNat rfl rfl rfl (by omega) (by omega) ?_
      refine Ex.p rfl ?_
      refine Ex.iret rfl rfl (Nat.zero_le _) (Nat.zero_le _) rfl ⟨?_, rfl⟩
      rw [rget, if_pos (by omega), h6 _ (by omega)]
      rw [List.getD_eq_getElem?_getD, List.getElem?_eq_getElem (show i.toInt.toNat < xs.length by omega)]
      rfl
/-- the places an array has once one more number stands in it -/
def rcap (cap n : Nat) : Nat := if n < cap then cap else 2 * n
/-- Row.push -/
theorem ct_Ro_push {r L cap : Nat} {xs : List Int32} {C : va_W} {x : Int32} (h : IsRow D r L cap xs C) (hf : 2 ≤ R.frames) (hl : 62 ≤ R.locals) (hcost : L ≤ xs.length ∨ xs.length < cap ∨ (1 ≤ R.cells ∧ 2 * xs.length ≤ R.slots)) :
    Ct l mRo_push D R [.ref r, .int x] [C] (fun v S => (xs.length < L ∧ v = some (.int 1) ∧ ∃ C', S = [C'] ∧ IsRow D r L (rcap cap xs.length) (xs ++ [x]) C') ∨ (L ≤ xs.length ∧ v = some (.int 0) ∧ S = [C])) := by
  obtain ⟨arr, f, rfl, h1, h2, h3, h4, h5, h6⟩ := h
  refine Ct.of rfl (by decide) tkRo_push (Nat.le_of_ble_eq_true rfl) (fun A => ?_)
  have e1 : nI xs.length + Int32.ofInt 1 = nI (xs.length + 1) := nI_1 _
  have e2 : nI xs.length * Int32.ofInt 2 = nI (2 * xs.length) := by rw [Nat.mul_comm]; exact pk_mul _ 2
  refine Ex.p rfl ?_
  refine Ex.gf 0 0 rfl rfl rfl ?_
  refine Ex.p rfl ?_
  refine Ex.gf 0 0 rfl rfl rfl ?_
  refine Ex.br rfl (fun c1 => ?_) (fun c1 => ?_)
  · rw [nI_ltI (by omega) (by omega)] at c1
    refine Ex.p rfl ?_
    refine Ex.gf 0 0 rfl rfl rfl ?_
    refine Ex.p rfl ?_
    refine Ex.gf 0 0 rfl rfl rfl ?_
    refine Ex.alen 0 1 0 rfl rfl rfl rfl ?_
    refine Ex.br rfl (fun c2 => ?_) (fun c2 => ?_)
    · rw [nI_ltI (by omega) (by simp; omega)] at c2
      have c2 : xs.length < cap := c2
      refine Ex.p rfl ?_
      refine Ex.gf 0 0 rfl rfl rfl ?_
      refine Ex.p rfl ?_
      refine Ex.gf 0 0 rfl rfl rfl ?_
      refine Ex.p rfl ?_
      refine Ex.ias 0 1 xs.length rfl rfl rfl (nI_toInt (by omega)) c2 ?_
      refine Ex.p rfl ?_
      refine Ex.p rfl ?_
      refine Ex.gf 0 0 rfl rfl rfl ?_
      refine Ex.p rfl ?_
      refine Ex.p rfl ?_
      rw [e1]
      refine Ex.pf 0 0 rfl rfl rfl rfl rfl rfl ?_
      refine Ex.p rfl ?_
      refine Ex.zret (S' := [sRow D r arr cap (upd f xs.length x) L (xs.length + 1)]) rfl rfl (Or.inr rfl) (Nat.zero_le _) (Nat.zero_le _) rfl (Or.inl ⟨c1, rfl, _, rfl, arr, upd f xs.length x, ?_⟩)
      rw [rcap, if_pos c2]
      refine ⟨by simp, by simp; omega, by simp; omega, h3, h4, h5, fun j hj => ?_⟩
      simp only [List.length_append, List.length_cons, List.length_nil] at hj
      by_cases hjx : j = xs.length
      · subst hjx
        simp [upd]
      · rw [pk_un hjx, h6 j (by omega), List.getElem_append_left (by omega)]
    · rw [nI_ltI (by omega) (by simp; omega)] at c2
      have c2 : ¬ xs.length < cap := c2
      have hcap : xs.length = cap := by omega
      have hc9 : 1 ≤ R.cells ∧ 2 * xs.length ≤ R.slots := by
        rcases hcost with q | q | q
        · omega
        · omega
        · exact q
      refine Ex.p rfl ?_
      refine Ex.p rfl ?_
      refine Ex.gf 0 0 rfl rfl rfl ?_
      refine Ex.p rfl ?_
      refine Ex.gf 0 0 rfl rfl rfl ?_
      refine Ex.p rfl ?_
      refine Ex.p rfl ?_
      rw [e2]
      refine Ex.seg (S' := [[(r, .inr (5, [.int (nI L), .ref arr, .int (nI xs.length)]))], [(arr, .inl (D.2.2.1 0, cap, .inl f))]]) rfl ?_
      refine Ex.cs (Mc := mCopy) (Rc := { frames := 1, cells := 1, slots := 2 * xs.length, locals := 40 }) (As := [.ref arr, .int (nI (2 * xs.length))]) (rest := [.ref r]) (Sr := [[(r, .inr (5, [.int (nI L), .ref arr, .int (nI xs.length)]))]]) [1] [0] (ct_copy (by omega) (by omega) (Nat.le_refl _) (Nat.le_refl _) (Nat.le_refl _) (Nat.le_refl _)) rfl lk_5_22 lcCopy rfl rfl rfl rfl rfl (by decide) ⟨hf, by show 8 + (3 + 11) + 40 ≤ R.locals; omega⟩ (Nat.le_of_ble_eq_true rfl) (by show 0 + 1 ≤ R.cells; omega) (by show 0 + 2 * xs.length ≤ R.slots; omega) ?_
      rintro v S1 ⟨q, rfl, rfl⟩
      refine Ex.pf 0 0 rfl rfl rfl rfl rfl rfl ?_
      refine Ex.p rfl ?_
      refine Ex.gf 0 0 rfl rfl rfl ?_
      refine Ex.p rfl ?_
      refine Ex.gf 0 0 rfl rfl rfl ?_
      refine Ex.p rfl ?_
      refine Ex.ias 2 0 xs.length rfl rfl rfl (nI_toInt (by omega)) (by omega) ?_
      refine Ex.p rfl ?_
      refine Ex.p rfl ?_
      refine Ex.gf 0 0 rfl rfl rfl ?_
      refine Ex.p rfl ?_
      refine Ex.p rfl ?_
      rw [e1]
      refine Ex.pf 0 0 rfl rfl rfl rfl rfl rfl ?_
      refine Ex.p rfl ?_
      refine Ex.sub (S' := [[(r, .inr (5, [.int (nI L), .ref q, .int (nI (xs.length + 1))]))], [(q, .inl (D.2.2.1 0, 2 * xs.length, .inl (upd (va_cpy f (fun _ => 0) 0 0 cap) xs.length x)))]]) [0, 2] rfl rfl ?_
      refine Ex.zret (S' := [sRow D r q (2 * xs.length) (upd (va_cpy f (fun _ => 0) 0 0 cap) xs.length x) L (xs.length + 1)]) rfl rfl (Or.inr rfl) (by show 0 + 1 ≤ R.cells; omega) (by show 0 + 2 * xs.length ≤ R.slots; omega) rfl (Or.inl ⟨c1, rfl, _, rfl, q, upd (va_cpy f (fun _ => 0) 0 0 cap) xs.length x, ?_⟩)
      rw [rcap, if_neg c2]
      refine ⟨by simp, by simp; omega, by simp; omega, by omega, by omega, h5, fun j hj => ?_⟩
      simp only [List.length_append, List.length_cons, List.length_nil] at hj
      by_cases hjx : j = xs.length
      · subst hjx
        simp [upd]
      · rw [pk_un hjx, pk_cpy_in (Nat.zero_le _) (by omega), List.getElem_append_left (by omega)]
        simp
        exact h6 j (by omega)
  · rw [nI_ltI (by omega) (by omega)] at c1
    refine Ex.p rfl ?_
    exact Ex.zret (S' := [sRow D r arr cap f L xs.length]) rfl rfl (Or.inl rfl) (Nat.zero_le _) (Nat.zero_le _) rfl (Or.inr ⟨by omega, rfl, rfl⟩)
end RO
end
section
/-! Hit, and small tests of the outer one -/
def rmOk (R : Room) (d c n : Nat) : Prop := d ≤ R.frames ∧ 40 * d ≤ R.locals ∧ c ≤ R.cells ∧ n ≤ R.slots
abbrev rm (d c n : Nat) : Room := { frames := d, cells := c, slots := n, locals := 40 * d }
theorem rm_ok (d c n : Nat) : rmOk (rm d c n) d c n := ⟨Nat.le_refl _, Nat.le_refl _, Nat.le_refl _, Nat.le_refl _⟩
abbrev HV : Type := Int32 × Int32 × Int32 × Int32 × Int32 × Int32 × Int32
abbrev hvs (h : HV) : List Value := [.int h.1, .int h.2.1, .int h.2.2.1, .int h.2.2.2.1, .int h.2.2.2.2.1, .int h.2.2.2.2.2.1, .int h.2.2.2.2.2.2]
abbrev cHit (a : Nat) (h : HV) : Nat × va_E := (a, .inr (3, hvs h))
def hslot (h : HV) : Bool := !(h.2.1 == h.2.2.2.1 && h.2.2.1 == h.2.2.2.2.1)
def abs32 (x : Int32) : Int32 := if 0 ≤ x then x else 0 - x
def max32 (x y : Int32) : Int32 := if x < y then y else x
def hway (a b : HV) : Int32 := max32 (abs32 (b.2.1 - a.2.2.2.1)) (abs32 (b.2.2.1 - a.2.2.2.2.1))
def b32 (b : Bool) : Int32 := if b then 1 else 0
theorem b32_01 (b : Bool) : b32 b = 0 ∨ b32 b = 1 := by cases b <;> simp [b32]
def hpart (h : HV) (w : Int32) : Int64 := if w = 0 then h.1.toInt64 else if w = 1 then h.2.1.toInt64 else if w = 2 then h.2.2.1.toInt64 else if w = 3 then h.2.2.2.1.toInt64 else if w = 4 then h.2.2.2.2.1.toInt64 else if w = 5 then h.2.2.2.2.2.1.toInt64 else if w = 6 then h.2.2.2.2.2.2.toInt64 else if hslot h then 1 else 0
section HI
variable {l : Launch} {D : xD} {R : Room}
theorem ct_Hi_init {a : Nat} {h : HV} (hr : rmOk R 1 0 0) : Ct l mHi_init D R (.ref a :: hvs h) [[(a, .inr (3, gdf 3))]] (fun v S => v = none ∧ S = [[cHit a h]]) := by
  refine Ct.of rfl (by decide) tkHi_init (Nat.le_of_ble_eq_true rfl) (fun A => ?_)
  refine Ex.p rfl ?_
  refine Ex.oi rfl lk_3_1 hr.1 (by simp; have := hr.2.1; omega) ?_
  refine Ex.p rfl ?_
  refine Ex.p rfl ?_
  refine Ex.pfF 0 0 rfl rfl rfl rfl rfl rfl rfl rfl ?_
  refine Ex.p rfl ?_
  refine Ex.p rfl ?_
  refine Ex.pfF 0 0 rfl rfl rfl rfl rfl rfl rfl rfl ?_
  refine Ex.p rfl ?_
  refine Ex.p rfl ?_
  refine Ex.pfF 0 0 rfl rfl rfl rfl rfl rfl rfl rfl ?_
  refine Ex.p rfl ?_
  refine Ex.p rfl ?_
  refine Ex.pfF 0 0 rfl rfl rfl rfl rfl rfl rfl rfl ?_
  refine Ex.p rfl ?_
  refine Ex.p rfl ?_
  refine Ex.pfF 0 0 rfl rfl rfl rfl rfl rfl rfl rfl ?_
  refine Ex.p rfl ?_
  refine Ex.p rfl ?_
  refine Ex.pfF 0 0 rfl rfl rfl rfl rfl rfl rfl rfl ?_
  refine Ex.p rfl ?_
  refine Ex.p rfl ?_
  refine Ex.pfF 0 0 rfl rfl rfl rfl rfl rfl rfl rfl ?_
  exact Ex.vret (S' := [[cHit a h]]) rfl rfl (Nat.zero_le _) (Nat.zero_le _) rfl ⟨rfl, rfl⟩
theorem ct_Hi_isSlot {a : Nat} {h : HV} : Ct l mHi_isSlot D R [.ref a] [[cHit a h]] (fun v S => v = some (.int (b32 (hslot h))) ∧ S = [[cHit a h]]) := by
  refine Ct.of rfl (by decide) tkHi_isSlot (Nat.le_of_ble_eq_true rfl) (fun A => ?_)
  repeat (first | refine Ex.p rfl ?_ | refine Ex.ldc rfl ?_ | refine Ex.ldc2 rfl ?_ | refine Ex.gf 0 0 rfl rfl rfl ?_)
  refine Ex.br rfl (fun c1 => ?_) (fun c1 => ?_)
  · repeat (first | refine Ex.p rfl ?_ | refine Ex.ldc rfl ?_ | refine Ex.ldc2 rfl ?_)
    refine Ex.zret rfl rfl (Or.inr rfl) (Nat.zero_le _) (Nat.zero_le _) rfl ⟨?_, rfl⟩
    simp [hslot, b32, c1]
  · repeat (first | refine Ex.p rfl ?_ | refine Ex.ldc rfl ?_ | refine Ex.ldc2 rfl ?_ | refine Ex.gf 0 0 rfl rfl rfl ?_)
    refine Ex.br rfl (fun c2 => ?_) (fun c2 => ?_)
    · repeat (first | refine Ex.p rfl ?_ | refine Ex.ldc rfl ?_ | refine Ex.ldc2 rfl ?_)
      refine Ex.zret rfl rfl (Or.inl rfl) (Nat.zero_le _) (Nat.zero_le _) rfl ⟨?_, rfl⟩
      simp at c1
      simp [hslot, b32, c1, c2]
    · repeat (first | refine Ex.p rfl ?_ | refine Ex.ldc rfl ?_ | refine Ex.ldc2 rfl ?_)
      refine Ex.zret rfl rfl (Or.inr rfl) (Nat.zero_le _) (Nat.zero_le _) rfl ⟨?_, rfl⟩
      simp [hslot, b32, c2]
theorem ct_Hi_wayTo {a b : Nat} {g h : HV} (hr : rmOk R 1 0 0) : Ct l mHi_wayTo D R [.ref a, .ref b] [[cHit a g], [cHit b h]] (fun v S => v = some (.int (hway g h)) ∧ S = [[cHit a g], [cHit b h]]) := by
  obtain ⟨r1, r2, r3, r4⟩ := hr
  refine Ct.of rfl (by decide) tkHi_wayTo (Nat.le_of_ble_eq_true rfl) (fun A => ?_)
  repeat (first | refine Ex.p rfl ?_ | refine Ex.ldc rfl ?_ | refine Ex.ldc2 rfl ?_ | refine Ex.gf 0 0 rfl rfl rfl ?_ | refine Ex.gf 1 0 rfl rfl rfl ?_)
  refine Ex.mabs rfl lk_3_31 r1 (Nat.le_trans (Nat.le_of_ble_eq_true rfl) r2) (Nat.zero_le _) (Nat.zero_le _) ?_
  repeat (first | refine Ex.p rfl ?_ | refine Ex.ldc rfl ?_ | refine Ex.ldc2 rfl ?_ | refine Ex.gf 0 0 rfl rfl rfl ?_ | refine Ex.gf 1 0 rfl rfl rfl ?_)
  refine Ex.mabs rfl lk_3_31 r1 (Nat.le_trans (Nat.le_of_ble_eq_true rfl) r2) (Nat.zero_le _) (Nat.zero_le _) ?_
  refine Ex.mmax rfl lk_3_37 r1 (Nat.le_trans (Nat.le_of_ble_eq_true rfl) r2) (Nat.zero_le _) (Nat.zero_le _) ?_
  exact Ex.iret rfl rfl (Nat.zero_le _) (Nat.zero_le _) rfl ⟨rfl, rfl⟩
theorem ct_isLayer {x : Int32} : Ct l mDa_isLayer D R [.int x] [] (fun v S => v = some (.int (b32 (decide (0 ≤ x.toInt ∧ x.toInt ≤ 7)))) ∧ S = []) := by
  refine Ct.of rfl (by decide) tkDa_isLayer (Nat.le_of_ble_eq_true rfl) (fun A => ?_)
  repeat (first | refine Ex.p rfl ?_ | refine Ex.ldc rfl ?_ | refine Ex.ldc2 rfl ?_)
  refine Ex.br rfl (fun c1 => ?_) (fun c1 => ?_)
  · rw [Int32.lt_iff_toInt_lt, i0_toInt] at c1
    repeat (first | refine Ex.p rfl ?_ | refine Ex.ldc rfl ?_ | refine Ex.ldc2 rfl ?_)
    refine Ex.zret rfl rfl (Or.inl rfl) (Nat.zero_le _) (Nat.zero_le _) rfl ⟨?_, rfl⟩
    rw [decide_eq_false (by omega)]; rfl
  · rw [Int32.lt_iff_toInt_lt, i0_toInt] at c1
    repeat (first | refine Ex.p rfl ?_ | refine Ex.ldc rfl ?_ | refine Ex.ldc2 rfl ?_)
    refine Ex.br rfl (fun c2 => ?_) (fun c2 => ?_)
    · rw [Int32.lt_iff_toInt_lt, show ((Int8.ofInt 7).toInt32).toInt = 7 from rfl] at c2
      repeat (first | refine Ex.p rfl ?_ | refine Ex.ldc rfl ?_ | refine Ex.ldc2 rfl ?_)
      refine Ex.zret rfl rfl (Or.inl rfl) (Nat.zero_le _) (Nat.zero_le _) rfl ⟨?_, rfl⟩
      rw [decide_eq_false (by omega)]; rfl
    · rw [Int32.lt_iff_toInt_lt, show ((Int8.ofInt 7).toInt32).toInt = 7 from rfl] at c2
      repeat (first | refine Ex.p rfl ?_ | refine Ex.ldc rfl ?_ | refine Ex.ldc2 rfl ?_)
      refine Ex.zret rfl rfl (Or.inr rfl) (Nat.zero_le _) (Nat.zero_le _) rfl ⟨?_, rfl⟩
      rw [decide_eq_true (by omega)]; rfl
theorem ct_isRole {x : Int32} : Ct l mDa_isRole D R [.int x] [] (fun v S => v = some (.int (b32 (decide (0 ≤ x.toInt ∧ x.toInt ≤ 7)))) ∧ S = []) := by
  refine Ct.of rfl (by decide) tkDa_isRole (Nat.le_of_ble_eq_true rfl) (fun A => ?_)
  repeat (first | refine Ex.p rfl ?_ | refine Ex.ldc rfl ?_ | refine Ex.ldc2 rfl ?_)
  refine Ex.br rfl (fun c1 => ?_) (fun c1 => ?_)
  · rw [Int32.lt_iff_toInt_lt, i0_toInt] at c1
    repeat (first | refine Ex.p rfl ?_ | refine Ex.ldc rfl ?_ | refine Ex.ldc2 rfl ?_)
    refine Ex.zret rfl rfl (Or.inl rfl) (Nat.zero_le _) (Nat.zero_le _) rfl ⟨?_, rfl⟩
    rw [decide_eq_false (by omega)]; rfl
  · rw [Int32.lt_iff_toInt_lt, i0_toInt] at c1
    repeat (first | refine Ex.p rfl ?_ | refine Ex.ldc rfl ?_ | refine Ex.ldc2 rfl ?_)
    refine Ex.br rfl (fun c2 => ?_) (fun c2 => ?_)
    · rw [Int32.lt_iff_toInt_lt, show ((Int8.ofInt 7).toInt32).toInt = 7 from rfl] at c2
      repeat (first | refine Ex.p rfl ?_ | refine Ex.ldc rfl ?_ | refine Ex.ldc2 rfl ?_)
      refine Ex.zret rfl rfl (Or.inl rfl) (Nat.zero_le _) (Nat.zero_le _) rfl ⟨?_, rfl⟩
      rw [decide_eq_false (by omega)]; rfl
    · rw [Int32.lt_iff_toInt_lt, show ((Int8.ofInt 7).toInt32).toInt = 7 from rfl] at c2
      repeat (first | refine Ex.p rfl ?_ | refine Ex.ldc rfl ?_ | refine Ex.ldc2 rfl ?_)
      refine Ex.zret rfl rfl (Or.inr rfl) (Nat.zero_le _) (Nat.zero_le _) rfl ⟨?_, rfl⟩
      rw [decide_eq_true (by omega)]; rfl
theorem ct_isByte {x : Int32} : Ct l mDa_isByte D R [.int x] [] (fun v S => v = some (.int (b32 (decide (0 ≤ x.toInt ∧ x.toInt < 256)))) ∧ S = []) := by
  refine Ct.of rfl (by decide) tkDa_isByte (Nat.le_of_ble_eq_true rfl) (fun A => ?_)
  repeat (first | refine Ex.p rfl ?_ | refine Ex.ldc rfl ?_ | refine Ex.ldc2 rfl ?_)
  refine Ex.br rfl (fun c1 => ?_) (fun c1 => ?_)
  · rw [Int32.lt_iff_toInt_lt, i0_toInt] at c1
    repeat (first | refine Ex.p rfl ?_ | refine Ex.ldc rfl ?_ | refine Ex.ldc2 rfl ?_)
    refine Ex.zret rfl rfl (Or.inl rfl) (Nat.zero_le _) (Nat.zero_le _) rfl ⟨?_, rfl⟩
    rw [decide_eq_false (by omega)]; rfl
  · rw [Int32.lt_iff_toInt_lt, i0_toInt] at c1
    repeat (first | refine Ex.p rfl ?_ | refine Ex.ldc rfl ?_ | refine Ex.ldc2 rfl ?_)
    refine Ex.br rfl (fun c2 => ?_) (fun c2 => ?_)
    · rw [Int32.le_iff_toInt_le, show ((Int16.ofInt 256).toInt32).toInt = 256 from rfl] at c2
      repeat (first | refine Ex.p rfl ?_ | refine Ex.ldc rfl ?_ | refine Ex.ldc2 rfl ?_)
      refine Ex.zret rfl rfl (Or.inl rfl) (Nat.zero_le _) (Nat.zero_le _) rfl ⟨?_, rfl⟩
      rw [decide_eq_false (by omega)]; rfl
    · rw [Int32.le_iff_toInt_le, show ((Int16.ofInt 256).toInt32).toInt = 256 from rfl] at c2
      repeat (first | refine Ex.p rfl ?_ | refine Ex.ldc rfl ?_ | refine Ex.ldc2 rfl ?_)
      refine Ex.zret rfl rfl (Or.inr rfl) (Nat.zero_le _) (Nat.zero_le _) rfl ⟨?_, rfl⟩
      rw [decide_eq_true (by omega)]; rfl
theorem ct_isDiameter {x : Int64} : Ct l mDa_isDiameter D R [.long x] [] (fun v S => v = some (.int (b32 (decide (1 ≤ x.toInt ∧ x.toInt ≤ 10000)))) ∧ S = []) := by
  refine Ct.of rfl (by decide) tkDa_isDiameter (Nat.le_of_ble_eq_true rfl) (fun A => ?_)
  repeat (first | refine Ex.p rfl ?_ | refine Ex.ldc rfl ?_ | refine Ex.ldc2 rfl ?_)
  refine Ex.br rfl (fun c0 => ?_) (fun c0 => ?_)
  · rw [lg_cmp_lt, Int64.lt_iff_toInt_lt] at c0
    have c0 : x.toInt < 1 := c0
    repeat (first | refine Ex.p rfl ?_ | refine Ex.ldc rfl ?_ | refine Ex.ldc2 rfl ?_)
    refine Ex.zret rfl rfl (Or.inl rfl) (Nat.zero_le _) (Nat.zero_le _) rfl ⟨?_, rfl⟩
    rw [decide_eq_false (by omega)]; rfl
  · rw [lg_cmp_lt, Int64.lt_iff_toInt_lt] at c0
    have c0 : ¬ x.toInt < 1 := c0
    repeat (first | refine Ex.p rfl ?_ | refine Ex.ldc rfl ?_ | refine Ex.ldc2 rfl ?_)
    refine Ex.br rfl (fun c1 => ?_) (fun c1 => ?_)
    · rw [lg_cmp_gt, Int64.lt_iff_toInt_lt] at c1
      have c1 : 10000 < x.toInt := c1
      repeat (first | refine Ex.p rfl ?_ | refine Ex.ldc rfl ?_ | refine Ex.ldc2 rfl ?_)
      refine Ex.zret rfl rfl (Or.inl rfl) (Nat.zero_le _) (Nat.zero_le _) rfl ⟨?_, rfl⟩
      rw [decide_eq_false (by omega)]; rfl
    · rw [lg_cmp_gt, Int64.lt_iff_toInt_lt] at c1
      have c1 : ¬ 10000 < x.toInt := c1
      repeat (first | refine Ex.p rfl ?_ | refine Ex.ldc rfl ?_ | refine Ex.ldc2 rfl ?_)
      refine Ex.zret rfl rfl (Or.inr rfl) (Nat.zero_le _) (Nat.zero_le _) rfl ⟨?_, rfl⟩
      rw [decide_eq_true (by omega)]; rfl
theorem ct_isPlace {x y : Int64} : Ct l mDa_isPlace D R [.long x, .long y] [] (fun v S => v = some (.int (b32 (decide (-1000000 ≤ x.toInt ∧ x.toInt ≤ 1000000 ∧ -1000000 ≤ y.toInt ∧ y.toInt ≤ 1000000)))) ∧ S = []) := by
  refine Ct.of rfl (by decide) tkDa_isPlace (Nat.le_of_ble_eq_true rfl) (fun A => ?_)
  repeat (first | refine Ex.p rfl ?_ | refine Ex.ldc rfl ?_ | refine Ex.ldc2 rfl ?_)
  refine Ex.br rfl (fun c0 => ?_) (fun c0 => ?_)
  · rw [lg_cmp_lt, Int64.lt_iff_toInt_lt] at c0
    have c0 : x.toInt < -1000000 := c0
    repeat (first | refine Ex.p rfl ?_ | refine Ex.ldc rfl ?_ | refine Ex.ldc2 rfl ?_)
    refine Ex.zret rfl rfl (Or.inl rfl) (Nat.zero_le _) (Nat.zero_le _) rfl ⟨?_, rfl⟩
    rw [decide_eq_false (by omega)]; rfl
  · rw [lg_cmp_lt, Int64.lt_iff_toInt_lt] at c0
    have c0 : ¬ x.toInt < -1000000 := c0
    repeat (first | refine Ex.p rfl ?_ | refine Ex.ldc rfl ?_ | refine Ex.ldc2 rfl ?_)
    refine Ex.br rfl (fun c1 => ?_) (fun c1 => ?_)
    · rw [lg_cmp_gt, Int64.lt_iff_toInt_lt] at c1
      have c1 : 1000000 < x.toInt := c1
      repeat (first | refine Ex.p rfl ?_ | refine Ex.ldc rfl ?_ | refine Ex.ldc2 rfl ?_)
      refine Ex.zret rfl rfl (Or.inl rfl) (Nat.zero_le _) (Nat.zero_le _) rfl ⟨?_, rfl⟩
      rw [decide_eq_false (by omega)]; rfl
    · rw [lg_cmp_gt, Int64.lt_iff_toInt_lt] at c1
      have c1 : ¬ 1000000 < x.toInt := c1
      repeat (first | refine Ex.p rfl ?_ | refine Ex.ldc rfl ?_ | refine Ex.ldc2 rfl ?_)
      refine Ex.br rfl (fun c2 => ?_) (fun c2 => ?_)
      · rw [lg_cmp_lt, Int64.lt_iff_toInt_lt] at c2
        have c2 : y.toInt < -1000000 := c2
        repeat (first | refine Ex.p rfl ?_ | refine Ex.ldc rfl ?_ | refine Ex.ldc2 rfl ?_)
        refine Ex.zret rfl rfl (Or.inl rfl) (Nat.zero_le _) (Nat.zero_le _) rfl ⟨?_, rfl⟩
        rw [decide_eq_false (by omega)]; rfl
      · rw [lg_cmp_lt, Int64.lt_iff_toInt_lt] at c2
        have c2 : ¬ y.toInt < -1000000 := c2
        repeat (first | refine Ex.p rfl ?_ | refine Ex.ldc rfl ?_ | refine Ex.ldc2 rfl ?_)
        refine Ex.br rfl (fun c3 => ?_) (fun c3 => ?_)
        · rw [lg_cmp_gt, Int64.lt_iff_toInt_lt] at c3
          have c3 : 1000000 < y.toInt := c3
          repeat (first | refine Ex.p rfl ?_ | refine Ex.ldc rfl ?_ | refine Ex.ldc2 rfl ?_)
          refine Ex.zret rfl rfl (Or.inl rfl) (Nat.zero_le _) (Nat.zero_le _) rfl ⟨?_, rfl⟩
          rw [decide_eq_false (by omega)]; rfl
        · rw [lg_cmp_gt, Int64.lt_iff_toInt_lt] at c3
          have c3 : ¬ 1000000 < y.toInt := c3
          repeat (first | refine Ex.p rfl ?_ | refine Ex.ldc rfl ?_ | refine Ex.ldc2 rfl ?_)
          refine Ex.zret rfl rfl (Or.inr rfl) (Nat.zero_le _) (Nat.zero_le _) rfl ⟨?_, rfl⟩
          rw [decide_eq_true (by omega)]; rfl
theorem ct_Hi_part {a : Nat} {h : HV} {w : Int32} (h0 : 0 ≤ w.toInt) (h7 : w.toInt ≤ 7) (hr : rmOk R 1 0 0) : Ct l mHi_part D R [.ref a, .int w] [[cHit a h]] (fun v S => v = some (.long (hpart h w)) ∧ S = [[cHit a h]]) := by
  obtain ⟨r1, r2, r3, r4⟩ := hr
  refine Ct.of rfl (by decide) tkHi_part (Nat.le_of_ble_eq_true rfl) (fun A => ?_)
  refine Ex.p rfl ?_
  have hw : w.toInt = 0 ∨ w.toInt = 1 ∨ w.toInt = 2 ∨ w.toInt = 3 ∨ w.toInt = 4 ∨ w.toInt = 5 ∨ w.toInt = 6 ∨ w.toInt = 7 := by omega
  rcases hw with e | e | e | e | e | e | e | e
  · have e : w = 0 := Int32.toInt_inj.mp e
    subst e
    refine Ex.swI (t := 44) tsHi_part_1 (by decide) (by decide) rfl rfl ?_
    repeat (first | refine Ex.p rfl ?_ | refine Ex.ldc rfl ?_ | refine Ex.ldc2 rfl ?_ | refine Ex.gf 0 0 rfl rfl rfl ?_)
    exact Ex.lret rfl rfl (Nat.zero_le _) (Nat.zero_le _) rfl ⟨rfl, rfl⟩
  · have e : w = 1 := Int32.toInt_inj.mp e
    subst e
    refine Ex.swI (t := 50) tsHi_part_1 (by decide) (by decide) rfl rfl ?_
    repeat (first | refine Ex.p rfl ?_ | refine Ex.ldc rfl ?_ | refine Ex.ldc2 rfl ?_ | refine Ex.gf 0 0 rfl rfl rfl ?_)
    exact Ex.lret rfl rfl (Nat.zero_le _) (Nat.zero_le _) rfl ⟨rfl, rfl⟩
  · have e : w = 2 := Int32.toInt_inj.mp e
    subst e
    refine Ex.swI (t := 56) tsHi_part_1 (by decide) (by decide) rfl rfl ?_
    repeat (first | refine Ex.p rfl ?_ | refine Ex.ldc rfl ?_ | refine Ex.ldc2 rfl ?_ | refine Ex.gf 0 0 rfl rfl rfl ?_)
    exact Ex.lret rfl rfl (Nat.zero_le _) (Nat.zero_le _) rfl ⟨rfl, rfl⟩
  · have e : w = 3 := Int32.toInt_inj.mp e
    subst e
    refine Ex.swI (t := 62) tsHi_part_1 (by decide) (by decide) rfl rfl ?_
    repeat (first | refine Ex.p rfl ?_ | refine Ex.ldc rfl ?_ | refine Ex.ldc2 rfl ?_ | refine Ex.gf 0 0 rfl rfl rfl ?_)
    exact Ex.lret rfl rfl (Nat.zero_le _) (Nat.zero_le _) rfl ⟨rfl, rfl⟩
  · have e : w = 4 := Int32.toInt_inj.mp e
    subst e
    refine Ex.swI (t := 68) tsHi_part_1 (by decide) (by decide) rfl rfl ?_
    repeat (first | refine Ex.p rfl ?_ | refine Ex.ldc rfl ?_ | refine Ex.ldc2 rfl ?_ | refine Ex.gf 0 0 rfl rfl rfl ?_)
    exact Ex.lret rfl rfl (Nat.zero_le _) (Nat.zero_le _) rfl ⟨rfl, rfl⟩
  · have e : w = 5 := Int32.toInt_inj.mp e
    subst e
    refine Ex.swI (t := 74) tsHi_part_1 (by decide) (by decide) rfl rfl ?_
    repeat (first | refine Ex.p rfl ?_ | refine Ex.ldc rfl ?_ | refine Ex.ldc2 rfl ?_ | refine Ex.gf 0 0 rfl rfl rfl ?_)
    exact Ex.lret rfl rfl (Nat.zero_le _) (Nat.zero_le _) rfl ⟨rfl, rfl⟩
  · have e : w = 6 := Int32.toInt_inj.mp e
    subst e
    refine Ex.swI (t := 80) tsHi_part_1 (by decide) (by decide) rfl rfl ?_
    repeat (first | refine Ex.p rfl ?_ | refine Ex.ldc rfl ?_ | refine Ex.ldc2 rfl ?_ | refine Ex.gf 0 0 rfl rfl rfl ?_)
    exact Ex.lret rfl rfl (Nat.zero_le _) (Nat.zero_le _) rfl ⟨rfl, rfl⟩
  · have e : w = 7 := Int32.toInt_inj.mp e
    subst e
    refine Ex.swO (t := 86) tsHi_part_1 (by decide) rfl ?_
    refine Ex.p rfl ?_
    refine Ex.cv (Mc := mHi_isSlot) (Rc := rm 0 0 0) (As := []) (rest := []) (Sr := []) (ic := 0) (jc := 0) [0] [] ct_Hi_isSlot rfl lk_3_41 lcHi_isSlot rfl rfl rfl rfl rfl (by decide) rfl rfl rfl (by decide) ⟨r1, by show 8 + (1 + 11) + 0 ≤ R.locals; omega⟩ (Nat.zero_le _) (Nat.zero_le _) (Nat.zero_le _) ?_
    rintro v S1 ⟨rfl, rfl⟩
    refine Ex.br rfl (fun c1 => ?_) (fun c1 => ?_)
    · repeat (first | refine Ex.p rfl ?_ | refine Ex.ldc rfl ?_ | refine Ex.ldc2 rfl ?_)
      refine Ex.lret rfl rfl (Nat.zero_le _) (Nat.zero_le _) rfl ⟨?_, rfl⟩
      cases hs : hslot h
      · simp [hpart, hs]
      · rw [hs] at c1; exact absurd c1 (by decide)
    · repeat (first | refine Ex.p rfl ?_ | refine Ex.ldc rfl ?_ | refine Ex.ldc2 rfl ?_)
      refine Ex.lret rfl rfl (Nat.zero_le _) (Nat.zero_le _) rfl ⟨?_, rfl⟩
      cases hs : hslot h
      · rw [hs] at c1; exact absurd rfl c1
      · simp [hpart, hs]
end HI
end
section
/-! Tool: its numbers, two rows -/
def IsTool (D : xD) (a : Nat) (dm : Int32) (pl : Bool) (hs os : List Int32) (len : Int64) (pn : Bool) (ch co : Nat) (C : va_W) : Prop :=
  ∃ (rh ro : Nat) (Ch Co : va_W), C = (a, .inr (9, [.int dm, .int (b32 pl), .ref rh, .ref ro, .long len, .int (b32 pn)])) :: (Ch ++ Co) ∧ IsRow D rh 60 ch hs Ch ∧ IsRow D ro 60 co os Co
theorem b32_nar (b : Bool) : narrow .boolean (.int (b32 b)) = .int (b32 b) := by cases b <;> rfl
theorem b32_fit (b : Bool) : fits .boolean (.int (b32 b)) = true := by cases b <;> rfl
theorem Ct.imp {l : Launch} {M : xM} {D : xD} {R : Room} {av : List Value} {S : List va_W} {Q Q' : Option Value → List va_W → Prop} (h : Ct l M D R av S Q) (hq : ∀ v S, Q v S → Q' v S) : Ct l M D R av S Q' := by
  intro sz p e ha hc hk s m args below hf happ hP hK
  obtain ⟨n, o, h1, h2, h3, ⟨⟨v, S1, e1, e2, e3, e4⟩, hF⟩, hL⟩ := h sz p e ha hc hk s m args below hf happ hP hK
  exact ⟨n, o, h1, h2, h3, ⟨⟨v, S1, e1, hq _ _ e2, e3, e4⟩, hF⟩, hL⟩
/-- what a push may make -/
theorem ct_push {l : Launch} {D : xD} {R : Room} {r L cap : Nat} {xs : List Int32} {C : va_W} {x : Int32} (h : IsRow D r L cap xs C) (hlt : xs.length < L) (hr : rmOk R 2 ((rcap cap xs.length - cap) / 8) (2 * (rcap cap xs.length - cap))) :
    Ct l mRo_push D R [.ref r, .int x] [C] (fun v S => v = some (.int 1) ∧ ∃ C', S = [C'] ∧ IsRow D r L (rcap cap xs.length) (xs ++ [x]) C') := by
  have h9 := id h
  obtain ⟨arr, f, e0, h1, h2, h3, h4, h5, h6⟩ := h9
  refine Ct.imp (ct_Ro_push (l := l) (R := R) (x := x) h hr.1 (by have := hr.2.1; omega) ?_) ?_
  · by_cases q : xs.length < cap
    · exact Or.inr (Or.inl q)
    · have := hr.2.2
      rw [rcap, if_neg q] at this
      exact Or.inr (Or.inr ⟨by omega, by omega⟩)
  · intro v S e2
    rcases e2 with ⟨-, q1, q2⟩ | ⟨q, -⟩
    · exact ⟨q1, q2⟩
    · omega
section TO
variable {l : Launch} {D : xD} {R : Room}
theorem ct_To_init {a : Nat} {dm : Int32} {pl : Bool} (hr : rmOk R 2 4 22) : Ct l mTo_init D R [.ref a, .int dm, .int (b32 pl)] [[(a, .inr (9, gdf 9))]] (fun v S => v = none ∧ ∃ C, S = [C] ∧ IsTool D a dm pl [] [] 0 false 8 8 C) := by
  obtain ⟨r1, r2, r3, r4⟩ := hr
  refine Ct.of rfl (by decide) tkTo_init (Nat.le_of_ble_eq_true rfl) (fun A => ?_)
  refine Ex.p rfl ?_
  refine Ex.oi rfl lk_9_3 (by omega) (by simp; omega) ?_
  refine Ex.p rfl ?_
  refine Ex.new (ci := 5) (N := 3) rfl rfl (by omega) (by omega) (fun q => ?_)
  refine Ex.p rfl ?_
  refine Ex.p rfl ?_
  refine Ex.ci (Mc := mRo_init) (Rc := rm 1 1 8) (As := [.int (nI 60)]) (rest := [.ref q, .ref a]) (Sr := [[(a, .inr (9, gdf 9))]]) [1] [0] (ct_Ro_init (by decide) (Nat.le_refl _) (by decide) (Nat.le_refl _) (Nat.le_refl _)) rfl lk_9_11 lcRo_init rfl rfl rfl rfl rfl (by decide) ⟨r1, by show 8 + (2 + 11) + 40 ≤ R.locals; omega⟩ (Nat.le_of_ble_eq_true rfl) (by show 0 + 1 + 1 ≤ R.cells; omega) (by show 0 + 3 + 8 ≤ R.slots; omega) ?_
  rintro v S1 ⟨rfl, C1, rfl, hC1⟩
  refine Ex.pfF 0 0 rfl rfl rfl rfl rfl rfl rfl rfl ?_
  refine Ex.p rfl ?_
  refine Ex.new (ci := 5) (N := 3) rfl rfl (by show 0 + 1 + 1 + 1 ≤ R.cells; omega) (by show 0 + 3 + 8 + 3 ≤ R.slots; omega) (fun q2 => ?_)
  refine Ex.p rfl ?_
  refine Ex.p rfl ?_
  refine Ex.ci (Mc := mRo_init) (Rc := rm 1 1 8) (As := [.int (nI 60)]) (rest := [.ref q2, .ref a]) (Sr := [[(a, .inr (9, [.int 0, .int 0, .ref q, .null, .long 0, .int 0]))], C1]) [2] [0, 1] (ct_Ro_init (by decide) (Nat.le_refl _) (by decide) (Nat.le_refl _) (Nat.le_refl _)) rfl lk_9_11 lcRo_init rfl rfl rfl rfl rfl (by decide) ⟨r1, by show 8 + (2 + 11) + 40 ≤ R.locals; omega⟩ (Nat.le_of_ble_eq_true rfl) (by show 0 + 1 + 1 + 1 + 1 ≤ R.cells; omega) (by show 0 + 3 + 8 + 3 + 8 ≤ R.slots; omega) ?_
  rintro v S1 ⟨rfl, C2, rfl, hC2⟩
  refine Ex.pfF 0 0 rfl rfl rfl rfl rfl rfl rfl rfl ?_
  refine Ex.p rfl ?_
  refine Ex.p rfl ?_
  refine Ex.pfF 0 0 rfl rfl rfl rfl rfl rfl rfl rfl ?_
  refine Ex.p rfl ?_
  refine Ex.p rfl ?_
  refine Ex.pfF 0 0 rfl rfl rfl rfl rfl rfl (b32_nar pl) (b32_fit pl) ?_
  refine Ex.vret (S' := [(a, .inr (9, [.int dm, .int (b32 pl), .ref q, .ref q2, .long 0, .int 0])) :: (C1 ++ C2)]) rfl rfl (by show 0 + 1 + 1 + 1 + 1 ≤ R.cells; omega) (by show 0 + 3 + 8 + 3 + 8 ≤ R.slots; omega) ?_ ⟨rfl, _, rfl, q, q2, C1, C2, rfl, hC1, hC2⟩
  simp
theorem ct_To_addHit {a ch co : Nat} {dm x : Int32} {pl pn : Bool} {hs os : List Int32} {len : Int64} {C : va_W} (h : IsTool D a dm pl hs os len pn ch co C) (hlt : hs.length < 60) (hr : rmOk R 3 ((rcap ch hs.length - ch) / 8) (2 * (rcap ch hs.length - ch))) : Ct l mTo_addHit D R [.ref a, .int x] [C] (fun v S => v = none ∧ ∃ C', S = [C'] ∧ IsTool D a dm pl (hs ++ [x]) os len false (rcap ch hs.length) co C') := by
  obtain ⟨rh, ro, Ch, Co, rfl, hh, ho⟩ := h
  obtain ⟨r1, r2, r3, r4⟩ := hr
  refine Ct.of rfl (by decide) tkTo_addHit (Nat.le_of_ble_eq_true rfl) (fun A => ?_)
  refine Ex.seg (S' := [[(a, .inr (9, [.int dm, .int (b32 pl), .ref rh, .ref ro, .long len, .int (b32 pn)]))], Ch, Co]) (by simp) ?_
  repeat (first | refine Ex.p rfl ?_ | refine Ex.ldc rfl ?_ | refine Ex.ldc2 rfl ?_ | refine Ex.gf 0 0 rfl rfl rfl ?_)
  obtain ⟨arr, f, eC, -⟩ := id hh
  refine Ex.cv (Mc := mRo_push) (Rc := rm 2 ((rcap ch hs.length - ch) / 8) (2 * (rcap ch hs.length - ch))) (As := [.int x]) (rest := []) (Sr := [[(a, .inr (9, [.int dm, .int (b32 pl), .ref rh, .ref ro, .long len, .int (b32 pn)]))], Co]) (ic := 1) (jc := 0) (ci := 5) [1] [0, 2] (ct_push hh hlt (rm_ok _ _ _)) rfl lk_9_31 lcRo_push rfl rfl rfl rfl rfl (by decide) rfl (by rw [eC]; rfl) rfl (by decide) ⟨r1, by show 8 + (2 + 11) + 80 ≤ R.locals; omega⟩ (Nat.zero_le _) (by dsimp only [rm]; omega) (by dsimp only [rm]; omega) ?_
  rintro v S1 ⟨rfl, C1, rfl, hC1⟩
  refine Ex.p rfl ?_
  refine Ex.p rfl ?_
  refine Ex.p rfl ?_
  refine Ex.pf 0 0 rfl rfl rfl rfl rfl rfl ?_
  refine Ex.sub (S' := [[(a, .inr (9, [.int dm, .int (b32 pl), .ref rh, .ref ro, .long len, .int 0]))], C1, Co]) [0, 2, 1] rfl rfl ?_
  refine Ex.vret (S' := [(a, .inr (9, [.int dm, .int (b32 pl), .ref rh, .ref ro, .long len, .int 0])) :: (C1 ++ Co)]) rfl rfl (by dsimp only [rm]; omega) (by dsimp only [rm]; omega) ?_ ⟨rfl, _, rfl, rh, ro, C1, Co, rfl, hC1, ho⟩
  simp
theorem ct_To_beginPlan {a ch co : Nat} {dm : Int32} {pl pn : Bool} {hs os : List Int32} {len : Int64} {C : va_W} (h : IsTool D a dm pl hs os len pn ch co C) (hr : rmOk R 1 0 0) : Ct l mTo_beginPlan D R [.ref a] [C] (fun v S => v = none ∧ ∃ C', S = [C'] ∧ IsTool D a dm pl hs [] 0 true ch co C') := by
  obtain ⟨rh, ro, Ch, Co, rfl, hh, ho⟩ := h
  obtain ⟨r1, r2, r3, r4⟩ := hr
  refine Ct.of rfl (by decide) tkTo_beginPlan (Nat.le_of_ble_eq_true rfl) (fun A => ?_)
  refine Ex.seg (S' := [[(a, .inr (9, [.int dm, .int (b32 pl), .ref rh, .ref ro, .long len, .int (b32 pn)]))], Ch, Co]) (by simp) ?_
  repeat (first | refine Ex.p rfl ?_ | refine Ex.ldc rfl ?_ | refine Ex.ldc2 rfl ?_ | refine Ex.gf 0 0 rfl rfl rfl ?_)
  obtain ⟨arr, f, eC, -⟩ := id ho
  refine Ex.cv (Mc := mRo_empty) (Rc := rm 0 0 0) (As := []) (rest := []) (Sr := [[(a, .inr (9, [.int dm, .int (b32 pl), .ref rh, .ref ro, .long len, .int (b32 pn)]))], Ch]) (ic := 2) (jc := 0) (ci := 5) [2] [0, 1] (ct_Ro_empty ho) rfl lk_9_38 lcRo_empty rfl rfl rfl rfl rfl (by decide) rfl (by rw [eC]; rfl) rfl (by decide) ⟨r1, by show 8 + (1 + 11) + 0 ≤ R.locals; omega⟩ (Nat.zero_le _) (Nat.zero_le _) (Nat.zero_le _) ?_
  rintro v S1 ⟨rfl, C1, rfl, hC1⟩
  refine Ex.p rfl ?_
  refine Ex.p rfl ?_
  refine Ex.pf 0 0 rfl rfl rfl rfl rfl rfl ?_
  refine Ex.p rfl ?_
  refine Ex.p rfl ?_
  refine Ex.pf 0 0 rfl rfl rfl rfl rfl rfl ?_
  refine Ex.vret (S' := [(a, .inr (9, [.int dm, .int (b32 pl), .ref rh, .ref ro, .long 0, .int 1])) :: (Ch ++ C1)]) rfl rfl (Nat.zero_le _) (Nat.zero_le _) ?_ ⟨rfl, _, rfl, rh, ro, Ch, C1, rfl, hh, hC1⟩
  simp [b32]
theorem ct_To_planNext {a ch co : Nat} {dm x w : Int32} {pl pn : Bool} {hs os : List Int32} {len : Int64} {C : va_W} (h : IsTool D a dm pl hs os len pn ch co C) (hlt : os.length < 60) (hr : rmOk R 3 ((rcap co os.length - co) / 8) (2 * (rcap co os.length - co))) : Ct l mTo_planNext D R [.ref a, .int x, .int w] [C] (fun v S => v = none ∧ ∃ C', S = [C'] ∧ IsTool D a dm pl hs (os ++ [x]) (len + w.toInt64) pn ch (rcap co os.length) C') := by
  obtain ⟨rh, ro, Ch, Co, rfl, hh, ho⟩ := h
  obtain ⟨r1, r2, r3, r4⟩ := hr
  refine Ct.of rfl (by decide) tkTo_planNext (Nat.le_of_ble_eq_true rfl) (fun A => ?_)
  refine Ex.seg (S' := [[(a, .inr (9, [.int dm, .int (b32 pl), .ref rh, .ref ro, .long len, .int (b32 pn)]))], Ch, Co]) (by simp) ?_
  repeat (first | refine Ex.p rfl ?_ | refine Ex.ldc rfl ?_ | refine Ex.ldc2 rfl ?_ | refine Ex.gf 0 0 rfl rfl rfl ?_)
  obtain ⟨arr, f, eC, -⟩ := id ho
  refine Ex.cv (Mc := mRo_push) (Rc := rm 2 ((rcap co os.length - co) / 8) (2 * (rcap co os.length - co))) (As := [.int x]) (rest := []) (Sr := [[(a, .inr (9, [.int dm, .int (b32 pl), .ref rh, .ref ro, .long len, .int (b32 pn)]))], Ch]) (ic := 2) (jc := 0) (ci := 5) [2] [0, 1] (ct_push ho hlt (rm_ok _ _ _)) rfl lk_9_31 lcRo_push rfl rfl rfl rfl rfl (by decide) rfl (by rw [eC]; rfl) rfl (by decide) ⟨r1, by show 8 + (2 + 11) + 80 ≤ R.locals; omega⟩ (Nat.zero_le _) (by dsimp only [rm]; omega) (by dsimp only [rm]; omega) ?_
  rintro v S1 ⟨rfl, C1, rfl, hC1⟩
  refine Ex.p rfl ?_
  refine Ex.p rfl ?_
  refine Ex.p rfl ?_
  repeat (first | refine Ex.p rfl ?_ | refine Ex.ldc rfl ?_ | refine Ex.ldc2 rfl ?_ | refine Ex.gf 0 0 rfl rfl rfl ?_)
  refine Ex.pf 0 0 rfl rfl rfl rfl rfl rfl ?_
  refine Ex.vret (S' := [(a, .inr (9, [.int dm, .int (b32 pl), .ref rh, .ref ro, .long (len + w.toInt64), .int (b32 pn)])) :: (Ch ++ C1)]) rfl rfl (by dsimp only [rm]; omega) (by dsimp only [rm]; omega) ?_ ⟨rfl, _, rfl, rh, ro, Ch, C1, rfl, hh, hC1⟩
  simp
end TO
end
section
/-! Drawing: tools, hits -/
abbrev TV : Type := Nat × Int32 × Bool × List Int32 × List Int32 × Int64 × Bool × Nat × Nat
def IsT (D : xD) (t : TV) (C : va_W) : Prop := IsTool D t.1 t.2.1 t.2.2.1 t.2.2.2.1 t.2.2.2.2.1 t.2.2.2.2.2.1 t.2.2.2.2.2.2.1 t.2.2.2.2.2.2.2.1 t.2.2.2.2.2.2.2.2 C
def IsTs (D : xD) (ts : List TV) (T : va_W) : Prop := ∃ Cs : List va_W, T = Cs.flatten ∧ Cs.length = ts.length ∧ ∀ (i : Nat) (t : TV), ts[i]? = some t → ∃ C, Cs[i]? = some C ∧ IsT D t C
theorem IsTs.at {D : xD} {ts : List TV} {T : va_W} (h : IsTs D ts T) {i : Nat} {t : TV} (hi : ts[i]? = some t) : ∃ X C Y, T = X ++ (C ++ Y) ∧ IsT D t C ∧ ∀ t' C', IsT D t' C' → IsTs D (ts.set i t') (X ++ (C' ++ Y)) := by
  obtain ⟨Cs, rfl, hl, h⟩ := h
  obtain ⟨C, hC, ht⟩ := h i t hi
  obtain ⟨hi1, hi2⟩ := List.getElem?_eq_some_iff.mp hi
  obtain ⟨hc1, hc2⟩ := List.getElem?_eq_some_iff.mp hC
  refine ⟨(Cs.take i).flatten, C, (Cs.drop (i + 1)).flatten, ?_, ht, fun t' C' ht' => ⟨Cs.set i C', ?_, by simp [hl], fun j u hj => ?_⟩⟩
  · rw [← hc2, ← List.flatten_cons, ← List.flatten_append, ← List.drop_eq_getElem_cons hc1, List.take_append_drop]
  · rw [List.set_eq_take_append_cons_drop, if_pos hc1, List.flatten_append, List.flatten_cons]
  · by_cases hij : i = j
    · subst hij
      rw [List.getElem?_set_self hi1] at hj
      cases hj
      exact ⟨C', by rw [List.getElem?_set_self hc1], ht'⟩
    · rw [List.getElem?_set_ne hij] at hj
      rw [List.getElem?_set_ne hij]
      exact h j u hj
theorem IsTs.push {D : xD} {ts : List TV} {T C : va_W} {t : TV} (h : IsTs D ts T) (hC : IsT D t C) : IsTs D (ts ++ [t]) (T ++ C) := by
  obtain ⟨Cs, rfl, hl, h⟩ := h
  refine ⟨Cs ++ [C], by simp, by simp [hl], fun i u hi => ?_⟩
  rcases Nat.lt_or_ge i ts.length with q | q
  · rw [List.getElem?_append_left q] at hi
    rw [List.getElem?_append_left (by omega)]
    exact h i u hi
  · rw [List.getElem?_append_right q] at hi
    rw [List.getElem?_append_right (by omega), hl]
    cases hk : i - ts.length with
    | zero =>
      rw [hk] at hi
      cases hi
      exact ⟨C, rfl, hC⟩
    | succ k =>
      rw [hk] at hi
      cases hi
def sHs (hs : List (Nat × HV)) : va_W := hs.map (fun h => cHit h.1 h.2)
def rfs (f : Nat → Option Nat) : (Nat → Int32) ⊕ (Nat → Int64) ⊕ (Nat → UInt32) ⊕ (Nat → UInt64) ⊕ (Nat → Option Nat) := .inr (.inr (.inr (.inr f)))
def IsDr (D : xD) (d : Nat) (ts : List TV) (hs : List (Nat × HV)) (Cd T Hs : va_W) : Prop :=
  ∃ (ta ha : Nat) (ft fh : Nat → Option Nat), Cd = [(d, .inr (1, [.ref ta, .ref ha, .int (nI ts.length), .int (nI hs.length)])), (ta, .inl (D.2.2.1 3, 10, .inr (.inr (.inr (.inr ft))))), (ha, .inl (D.2.2.1 4, 60, .inr (.inr (.inr (.inr fh)))))] ∧ IsTs D ts T ∧ Hs = sHs hs ∧
    (∀ (i : Nat) (t : TV), ts[i]? = some t → ft i = some t.1) ∧ (∀ (i : Nat) (h : Nat × HV), hs[i]? = some h → fh i = some h.1) ∧ ts.length ≤ 10 ∧ hs.length ≤ 60
/-- the one at a number, if there is one -/
def ixo {α : Type} (xs : List α) (i : Int32) : Option α := if 0 ≤ i.toInt then xs[i.toInt.toNat]? else none
theorem ixo_none {α : Type} {xs : List α} {i : Int32} (h : i.toInt < 0 ∨ (xs.length : Int) ≤ i.toInt) : ixo xs i = none := by
  unfold ixo
  split
  · exact List.getElem?_eq_none (by omega)
  · rfl
section DR
variable {l : Launch} {D : xD} {R : Room}
theorem ct_Dr_init {d : Nat} (hr : rmOk R 1 2 70) : Ct l mDr_init D R [.ref d] [[(d, .inr (1, gdf 1))]] (fun v S => v = none ∧ ∃ Cd, S = [Cd] ∧ IsDr D d [] [] Cd [] []) := by
  obtain ⟨r1, r2, r3, r4⟩ := hr
  refine Ct.of rfl (by decide) tkDr_init (Nat.le_of_ble_eq_true rfl) (fun A => ?_)
  refine Ex.p rfl ?_
  refine Ex.oi rfl lk_1_3 (by omega) (by simp; omega) ?_
  refine Ex.p rfl ?_
  refine Ex.p rfl ?_
  refine Ex.newa (N := 10) (ci := 9) (t0 := 3) (cn := "DrillArchive$Tool") rfl rfl (by decide) (by decide) rfl rfl (by decide) (by omega) (by omega) (fun q => ?_)
  refine Ex.pfF 0 0 rfl rfl rfl rfl rfl rfl rfl rfl ?_
  refine Ex.p rfl ?_
  refine Ex.p rfl ?_
  refine Ex.newa (N := 60) (ci := 3) (t0 := 4) (cn := "DrillArchive$Hit") rfl rfl (by decide) (by decide) rfl rfl (by decide) (by omega) (by omega) (fun q2 => ?_)
  refine Ex.pfF 0 0 rfl rfl rfl rfl rfl rfl rfl rfl ?_
  refine Ex.vret (S' := [[(d, .inr (1, [.ref q, .ref q2, .int (nI 0), .int (nI 0)])), (q, .inl (D.2.2.1 3, 10, .inr (.inr (.inr (.inr (fun _ => none)))))), (q2, .inl (D.2.2.1 4, 60, .inr (.inr (.inr (.inr (fun _ => none))))))]]) rfl rfl (by omega) (by omega) rfl ⟨rfl, _, rfl, q, q2, _, _, rfl, ⟨[], rfl, rfl, fun i t h => by simp at h⟩, rfl, fun i t h => by simp at h, fun i t h => by simp at h, by decide, by decide⟩
theorem ct_Dr_toolAt {d : Nat} {ts : List TV} {hs : List (Nat × HV)} {Cd T Hs : va_W} {i : Int32} (h : IsDr D d ts hs Cd T Hs) : Ct l mDr_toolAt D R [.ref d, .int i] [Cd] (fun v S => v = some (va_rf ((ixo ts i).map (fun t => t.1))) ∧ S = [Cd]) := by
  obtain ⟨ta, ha, ft, fh, rfl, hT, rfl, h1, h2, h3, h4⟩ := h
  refine Ct.of rfl (by decide) tkDr_toolAt (Nat.le_of_ble_eq_true rfl) (fun A => ?_)
  refine Ex.p rfl ?_
  refine Ex.br rfl (fun c1 => ?_) (fun c1 => ?_)
  · rw [Int32.lt_iff_toInt_lt, i0_toInt] at c1
    repeat (first | refine Ex.p rfl ?_ | refine Ex.ldc rfl ?_ | refine Ex.ldc2 rfl ?_)
    refine Ex.aret rfl rfl (Or.inl rfl) (Nat.zero_le _) (Nat.zero_le _) rfl ⟨?_, rfl⟩
    rw [ixo_none (Or.inl c1)]; rfl
  · rw [Int32.lt_iff_toInt_lt, i0_toInt] at c1
    repeat (first | refine Ex.p rfl ?_ | refine Ex.ldc rfl ?_ | refine Ex.ldc2 rfl ?_ | refine Ex.gf 0 0 rfl rfl rfl ?_)
    refine Ex.br rfl (fun c2 => ?_) (fun c2 => ?_)
    · rw [Int32.le_iff_toInt_le, nI_toInt (by omega)] at c2
      repeat (first | refine Ex.p rfl ?_ | refine Ex.ldc rfl ?_ | refine Ex.ldc2 rfl ?_)
      refine Ex.aret rfl rfl (Or.inl rfl) (Nat.zero_le _) (Nat.zero_le _) rfl ⟨?_, rfl⟩
      rw [ixo_none (Or.inr c2)]; rfl
    · rw [Int32.le_iff_toInt_le, nI_toInt (by omega)] at c2
      repeat (first | refine Ex.p rfl ?_ | refine Ex.ldc rfl ?_ | refine Ex.ldc2 rfl ?_ | refine Ex.gf 0 0 rfl rfl rfl ?_)
      refine Ex.aal 0 1 i.toInt.toNat 3 rfl rfl rfl rfl (by omega) (by omega) ?_
      repeat (first | refine Ex.p rfl ?_ | refine Ex.ldc rfl ?_ | refine Ex.ldc2 rfl ?_)
      refine Ex.aret rfl rfl (va_rf_or _) (Nat.zero_le _) (Nat.zero_le _) rfl ⟨?_, rfl⟩
      have hlt : i.toInt.toNat < ts.length := by omega
      rw [h1 _ _ (List.getElem?_eq_getElem hlt), ixo, if_pos (by omega), List.getElem?_eq_getElem hlt]
      rfl
theorem ct_Dr_hitAt {d : Nat} {ts : List TV} {hs : List (Nat × HV)} {Cd T Hs : va_W} {i : Int32} (h : IsDr D d ts hs Cd T Hs) : Ct l mDr_hitAt D R [.ref d, .int i] [Cd] (fun v S => v = some (va_rf ((ixo hs i).map (fun t => t.1))) ∧ S = [Cd]) := by
  obtain ⟨ta, ha, ft, fh, rfl, hT, rfl, h1, h2, h3, h4⟩ := h
  refine Ct.of rfl (by decide) tkDr_hitAt (Nat.le_of_ble_eq_true rfl) (fun A => ?_)
  refine Ex.p rfl ?_
  refine Ex.br rfl (fun c1 => ?_) (fun c1 => ?_)
  · rw [Int32.lt_iff_toInt_lt, i0_toInt] at c1
    repeat (first | refine Ex.p rfl ?_ | refine Ex.ldc rfl ?_ | refine Ex.ldc2 rfl ?_)
    refine Ex.aret rfl rfl (Or.inl rfl) (Nat.zero_le _) (Nat.zero_le _) rfl ⟨?_, rfl⟩
    rw [ixo_none (Or.inl c1)]; rfl
  · rw [Int32.lt_iff_toInt_lt, i0_toInt] at c1
    repeat (first | refine Ex.p rfl ?_ | refine Ex.ldc rfl ?_ | refine Ex.ldc2 rfl ?_ | refine Ex.gf 0 0 rfl rfl rfl ?_)
    refine Ex.br rfl (fun c2 => ?_) (fun c2 => ?_)
    · rw [Int32.le_iff_toInt_le, nI_toInt (by omega)] at c2
      repeat (first | refine Ex.p rfl ?_ | refine Ex.ldc rfl ?_ | refine Ex.ldc2 rfl ?_)
      refine Ex.aret rfl rfl (Or.inl rfl) (Nat.zero_le _) (Nat.zero_le _) rfl ⟨?_, rfl⟩
      rw [ixo_none (Or.inr c2)]; rfl
    · rw [Int32.le_iff_toInt_le, nI_toInt (by omega)] at c2
      repeat (first | refine Ex.p rfl ?_ | refine Ex.ldc rfl ?_ | refine Ex.ldc2 rfl ?_ | refine Ex.gf 0 0 rfl rfl rfl ?_)
      refine Ex.aal 0 2 i.toInt.toNat 4 rfl rfl rfl rfl (by omega) (by omega) ?_
      repeat (first | refine Ex.p rfl ?_ | refine Ex.ldc rfl ?_ | refine Ex.ldc2 rfl ?_)
      refine Ex.aret rfl rfl (va_rf_or _) (Nat.zero_le _) (Nat.zero_le _) rfl ⟨?_, rfl⟩
      have hlt : i.toInt.toNat < hs.length := by omega
      rw [h2 _ _ (List.getElem?_eq_getElem hlt), ixo, if_pos (by omega), List.getElem?_eq_getElem hlt]
      rfl
end DR
end
section
/-! Drawing: addTool, addHit -/
theorem i_add1 (n : Nat) : nI n + Int32.ofInt 1 = nI (n + 1) := nI_1 n
theorem i_sub1 (n : Nat) : nI (n + 1) - Int32.ofInt 1 = nI n := nI_pred n
/-- a tool behind one more hit -/
def tadd (t : TV) (x : Int32) : TV := (t.1, t.2.1, t.2.2.1, t.2.2.2.1 ++ [x], t.2.2.2.2.1, t.2.2.2.2.2.1, false, rcap t.2.2.2.2.2.2.2.1 t.2.2.2.1.length, t.2.2.2.2.2.2.2.2)
section DR2
variable {l : Launch} {D : xD} {R : Room}
theorem ct_Dr_addTool {d : Nat} {ts : List TV} {hs : List (Nat × HV)} {Cd T Hs : va_W} {dm : Int32} {pl : Bool} (h : IsDr D d ts hs Cd T Hs) (hr : rmOk R 3 5 28) : Ct l mDr_addTool D R [.ref d, .int dm, .int (b32 pl)] [Cd, T] (fun v S => (10 ≤ ts.length ∧ v = some (.int (-1)) ∧ S = [Cd, T]) ∨ (ts.length < 10 ∧ v = some (.int (nI ts.length)) ∧ ∃ Cd' T' q, S = [Cd', T'] ∧ IsDr D d (ts ++ [(q, dm, pl, [], [], 0, false, 8, 8)]) hs Cd' T' Hs)) := by
  obtain ⟨ta, ha, ft, fh, rfl, hT, rfl, h1, h2, h3, h4⟩ := h
  obtain ⟨r1, r2, r3, r4⟩ := hr
  refine Ct.of rfl (by decide) tkDr_addTool (Nat.le_of_ble_eq_true rfl) (fun A => ?_)
  repeat (first | refine Ex.p rfl ?_ | refine Ex.ldc rfl ?_ | refine Ex.ldc2 rfl ?_ | refine Ex.gf 0 0 rfl rfl rfl ?_)
  refine Ex.br rfl (fun c1 => ?_) (fun c1 => ?_)
  · have c1 : nI ts.length < nI 10 := c1
    rw [nI_ltI (by omega) (by omega)] at c1
    repeat (first | refine Ex.p rfl ?_ | refine Ex.ldc rfl ?_ | refine Ex.ldc2 rfl ?_ | refine Ex.gf 0 0 rfl rfl rfl ?_)
    refine Ex.new (ci := 9) (N := 6) rfl rfl (by omega) (by omega) (fun q => ?_)
    refine Ex.p rfl ?_
    refine Ex.p rfl ?_
    refine Ex.p rfl ?_
    refine Ex.ci (Mc := mTo_init) (Rc := rm 2 4 22) (As := [.int dm, .int (b32 pl)]) (rest := [.ref q, .int (nI ts.length), .ref ta]) (Sr := [[(d, .inr (1, [.ref ta, .ref ha, .int (nI ts.length), .int (nI hs.length)])), (ta, .inl (D.2.2.1 3, 10, .inr (.inr (.inr (.inr ft))))), (ha, .inl (D.2.2.1 4, 60, .inr (.inr (.inr (.inr fh)))))], T]) [2] [0, 1] (ct_To_init (rm_ok _ _ _)) rfl lk_1_27 lcTo_init rfl rfl rfl rfl rfl (by decide) ⟨r1, by show 8 + (3 + 11) + 80 ≤ R.locals; omega⟩ (Nat.le_of_ble_eq_true rfl) (by dsimp only [rm]; omega) (by dsimp only [rm]; omega) ?_
    rintro v S1 ⟨rfl, C, rfl, hC⟩
    obtain ⟨rh, ro, Ch, Co, eC, -⟩ := id hC
    refine Ex.aas 0 1 ts.length 3 2 0 9 rfl rfl rfl rfl rfl (by rw [eC]; rfl) rfl (nI_toInt (by omega)) c1 ?_
    repeat (first | refine Ex.p rfl ?_ | refine Ex.ldc rfl ?_ | refine Ex.ldc2 rfl ?_ | refine Ex.gf 0 0 rfl rfl rfl ?_)
    rw [i_add1]
    refine Ex.pf 0 0 rfl rfl rfl rfl rfl rfl ?_
    repeat (first | refine Ex.p rfl ?_ | refine Ex.ldc rfl ?_ | refine Ex.ldc2 rfl ?_ | refine Ex.gf 0 0 rfl rfl rfl ?_)
    rw [i_sub1]
    refine Ex.iret (S' := [[(d, .inr (1, [.ref ta, .ref ha, .int (nI (ts.length + 1)), .int (nI hs.length)])), (ta, .inl (D.2.2.1 3, 10, .inr (.inr (.inr (.inr (va_up ft ts.length (some q))))))), (ha, .inl (D.2.2.1 4, 60, .inr (.inr (.inr (.inr fh)))))], T ++ C]) rfl rfl (by dsimp only [rm]; omega) (by dsimp only [rm]; omega) (by simp) (Or.inr ⟨c1, rfl, _, _, q, rfl, ta, ha, va_up ft ts.length (some q), fh, by simp, hT.push hC, rfl, ?_, h2, by simp; omega, h4⟩)
    intro i t hi
    rcases Nat.lt_or_ge i ts.length with g | g
    · rw [List.getElem?_append_left g] at hi
      rw [va_up_ne _ _ (by omega)]
      exact h1 i t hi
    · rw [List.getElem?_append_right g] at hi
      cases hk : i - ts.length with
      | zero =>
        rw [hk] at hi
        cases hi
        rw [show i = ts.length by omega, va_up_self]
      | succ k =>
        rw [hk] at hi
        cases hi
  · have c1 : ¬ nI ts.length < nI 10 := c1
    rw [nI_ltI (by omega) (by omega)] at c1
    repeat (first | refine Ex.p rfl ?_ | refine Ex.ldc rfl ?_ | refine Ex.ldc2 rfl ?_)
    exact Ex.iret rfl rfl (Nat.zero_le _) (Nat.zero_le _) rfl (Or.inl ⟨by omega, rfl, rfl⟩)
theorem ct_Dr_addHit {d a i : Nat} {ts : List TV} {hs : List (Nat × HV)} {Cd T Hs : va_W} {h9 : HV} {t : TV} (h : IsDr D d ts hs Cd T Hs) (hi : h9.1.toInt = i) (ht : ts[i]? = some t) (hlt : hs.length < 60 → t.2.2.2.1.length < 60) (hr : rmOk R 4 ((rcap t.2.2.2.2.2.2.2.1 t.2.2.2.1.length - t.2.2.2.2.2.2.2.1) / 8) (2 * (rcap t.2.2.2.2.2.2.2.1 t.2.2.2.1.length - t.2.2.2.2.2.2.2.1))) :
    Ct l mDr_addHit D R [.ref d, .ref a] [Cd, T, Hs, [cHit a h9]] (fun v S => (60 ≤ hs.length ∧ v = some (.int (-1)) ∧ S = [Cd, T, Hs, [cHit a h9]]) ∨ (hs.length < 60 ∧ v = some (.int (nI hs.length)) ∧ ∃ Cd' T', S = [Cd', T', sHs (hs ++ [(a, h9)])] ∧ IsDr D d (ts.set i (tadd t (nI hs.length))) (hs ++ [(a, h9)]) Cd' T' (sHs (hs ++ [(a, h9)])))) := by
  have hd9 := h
  obtain ⟨ta, ha, ft, fh, rfl, hT, rfl, h1, h2, h3, h4⟩ := h
  obtain ⟨r1, r2, r3, r4⟩ := hr
  have hix : ixo ts h9.1 = some t := by rw [ixo, if_pos (by omega), hi]; exact ht
  refine Ct.of rfl (by decide) tkDr_addHit (Nat.le_of_ble_eq_true rfl) (fun A => ?_)
  repeat (first | refine Ex.p rfl ?_ | refine Ex.ldc rfl ?_ | refine Ex.ldc2 rfl ?_ | refine Ex.gf 0 0 rfl rfl rfl ?_ | refine Ex.gf 3 0 rfl rfl rfl ?_)
  refine Ex.cv (Mc := mDr_toolAt) (Rc := rm 0 0 0) (As := [.int h9.1]) (rest := []) (Sr := [T, sHs hs, [cHit a h9]]) (ic := 0) (jc := 0) (ci := 1) [0] [1, 2, 3] (ct_Dr_toolAt hd9) rfl lk_1_33 lcDr_toolAt rfl rfl rfl rfl rfl (by decide) rfl rfl rfl (by decide) ⟨by dsimp only [rm]; omega, by show 8 + (2 + 11) + 0 ≤ R.locals; omega⟩ (Nat.zero_le _) (Nat.zero_le _) (Nat.zero_le _) ?_
  rintro v S1 ⟨rfl, rfl⟩
  rw [hix]
  refine Ex.p rfl ?_
  refine Ex.p rfl ?_
  refine Ex.nuR rfl ?_
  repeat (first | refine Ex.p rfl ?_ | refine Ex.ldc rfl ?_ | refine Ex.ldc2 rfl ?_ | refine Ex.gf 3 0 rfl rfl rfl ?_)
  refine Ex.br rfl (fun c1 => ?_) (fun c1 => ?_)
  · have c1 : nI hs.length < nI 60 := c1
    rw [nI_ltI (by omega) (by omega)] at c1
    repeat (first | refine Ex.p rfl ?_ | refine Ex.ldc rfl ?_ | refine Ex.ldc2 rfl ?_ | refine Ex.gf 3 0 rfl rfl rfl ?_)
    refine Ex.aas 3 2 hs.length 4 2 0 3 rfl rfl rfl rfl rfl rfl rfl (nI_toInt (by omega)) c1 ?_
    repeat (first | refine Ex.p rfl ?_ | refine Ex.ldc rfl ?_ | refine Ex.ldc2 rfl ?_ | refine Ex.gf 3 0 rfl rfl rfl ?_)
    obtain ⟨X, C, Y, rfl, hC, hback⟩ := hT.at ht
    refine Ex.seg (S' := [X, C, Y, sHs hs, [cHit a h9], [(d, .inr (1, [.ref ta, .ref ha, .int (nI ts.length), .int (nI hs.length)])), (ta, .inl (D.2.2.1 3, 10, .inr (.inr (.inr (.inr ft))))), (ha, .inl (D.2.2.1 4, 60, .inr (.inr (.inr (.inr (va_up fh hs.length (some a)))))))]]) (by simp) ?_
    obtain ⟨rh, ro, Ch, Co, eC, -⟩ := id hC
    refine Ex.cv (Mc := mTo_addHit) (Rc := rm 3 ((rcap t.2.2.2.2.2.2.2.1 t.2.2.2.1.length - t.2.2.2.2.2.2.2.1) / 8) (2 * (rcap t.2.2.2.2.2.2.2.1 t.2.2.2.1.length - t.2.2.2.2.2.2.2.1))) (As := [.int (nI hs.length)]) (rest := []) (Sr := [X, Y, sHs hs, [cHit a h9], [(d, .inr (1, [.ref ta, .ref ha, .int (nI ts.length), .int (nI hs.length)])), (ta, .inl (D.2.2.1 3, 10, .inr (.inr (.inr (.inr ft))))), (ha, .inl (D.2.2.1 4, 60, .inr (.inr (.inr (.inr (va_up fh hs.length (some a)))))))]]) (ic := 1) (jc := 0) (ci := 9) [1] [0, 2, 3, 4, 5] (ct_To_addHit hC (hlt c1) (rm_ok _ _ _)) rfl lk_1_40 lcTo_addHit rfl rfl rfl rfl rfl (by decide) rfl (by rw [eC]; rfl) rfl (by decide) ⟨r1, by show 8 + (2 + 11) + 120 ≤ R.locals; omega⟩ (Nat.zero_le _) (by dsimp only [rm]; omega) (by dsimp only [rm]; omega) ?_
    rintro v S1 ⟨rfl, C', rfl, hC'⟩
    repeat (first | refine Ex.p rfl ?_ | refine Ex.ldc rfl ?_ | refine Ex.ldc2 rfl ?_ | refine Ex.gf 4 0 rfl rfl rfl ?_)
    rw [i_add1]
    refine Ex.pf 4 0 rfl rfl rfl rfl rfl rfl ?_
    repeat (first | refine Ex.p rfl ?_ | refine Ex.ldc rfl ?_ | refine Ex.ldc2 rfl ?_ | refine Ex.gf 4 0 rfl rfl rfl ?_)
    rw [i_sub1]
    refine Ex.sub (S' := [[(d, .inr (1, [.ref ta, .ref ha, .int (nI ts.length), .int (nI (hs.length + 1))])), (ta, .inl (D.2.2.1 3, 10, .inr (.inr (.inr (.inr ft))))), (ha, .inl (D.2.2.1 4, 60, .inr (.inr (.inr (.inr (va_up fh hs.length (some a)))))))], X, C', Y, sHs hs, [cHit a h9]]) [4, 0, 5, 1, 2, 3] rfl rfl ?_
    refine Ex.iret (S' := [[(d, .inr (1, [.ref ta, .ref ha, .int (nI ts.length), .int (nI (hs.length + 1))])), (ta, .inl (D.2.2.1 3, 10, .inr (.inr (.inr (.inr ft))))), (ha, .inl (D.2.2.1 4, 60, .inr (.inr (.inr (.inr (va_up fh hs.length (some a)))))))], X ++ (C' ++ Y), sHs (hs ++ [(a, h9)])]) rfl rfl (by dsimp only [rm]; omega) (by dsimp only [rm]; omega) (by simp [sHs]) (Or.inr ⟨c1, rfl, _, _, rfl, ta, ha, ft, va_up fh hs.length (some a), by simp, hback _ _ hC', rfl, ?_, ?_, by simp; omega, by simp; omega⟩)
    · intro j u hj
      by_cases hij : i = j
      · subst hij
        rw [List.getElem?_set_self (List.getElem?_eq_some_iff.mp ht).1] at hj
        cases hj
        exact h1 i t ht
      · rw [List.getElem?_set_ne hij] at hj
        exact h1 j u hj
    · intro j u hj
      rcases Nat.lt_or_ge j hs.length with g | g
      · rw [List.getElem?_append_left g] at hj
        rw [va_up_ne _ _ (by omega)]
        exact h2 j u hj
      · rw [List.getElem?_append_right g] at hj
        cases hk : j - hs.length with
        | zero =>
          rw [hk] at hj
          cases hj
          rw [show j = hs.length by omega, va_up_self]
        | succ k =>
          rw [hk] at hj
          cases hj
  · have c1 : ¬ nI hs.length < nI 60 := c1
    rw [nI_ltI (by omega) (by omega)] at c1
    repeat (first | refine Ex.p rfl ?_ | refine Ex.ldc rfl ?_ | refine Ex.ldc2 rfl ?_)
    refine Ex.sub (S' := [[(d, .inr (1, [.ref ta, .ref ha, .int (nI ts.length), .int (nI hs.length)])), (ta, .inl (D.2.2.1 3, 10, .inr (.inr (.inr (.inr ft))))), (ha, .inl (D.2.2.1 4, 60, .inr (.inr (.inr (.inr fh)))))], T, sHs hs, [cHit a h9]]) [3, 0, 1, 2] rfl rfl ?_
    exact Ex.iret rfl rfl (Nat.zero_le _) (Nat.zero_le _) rfl (Or.inl ⟨by omega, rfl, rfl⟩)
end DR2
end
section
/-! Row: same, pushes in a row, pushPart -/
/-- the places behind k more numbers -/
def capN (cap n : Nat) : Nat → Nat
  | 0 => cap
  | k + 1 => capN (rcap cap n) (n + 1) k
theorem rcap_ge (cap n : Nat) : cap ≤ rcap cap n := by unfold rcap; split <;> omega
theorem capN_ge : ∀ (k cap n : Nat), cap ≤ capN cap n k
  | 0, _, _ => Nat.le_refl _
  | k + 1, cap, n => Nat.le_trans (rcap_ge cap n) (capN_ge k _ _)
theorem capN_add : ∀ (a b cap n : Nat), capN cap n (a + b) = capN (capN cap n a) (n + a) b
  | 0, b, cap, n => by rw [Nat.zero_add]; rfl
  | a + 1, b, cap, n => by
    rw [show a + 1 + b = (a + b) + 1 by omega]
    show capN (rcap cap n) (n + 1) (a + b) = capN (capN (rcap cap n) (n + 1) a) (n + (a + 1)) b
    rw [capN_add a b, show n + 1 + a = n + (a + 1) by omega]
theorem capN_le : ∀ (k cap n B : Nat), cap ≤ B → 2 * (n + k) ≤ B + 2 → capN cap n k ≤ B
  | 0, _, _, _, h, _ => h
  | k + 1, cap, n, B, h, h2 => by
    refine capN_le k (rcap cap n) (n + 1) B ?_ (by omega)
    unfold rcap
    split <;> omega
section RL
variable {l : Launch} {D : xD} {R : Room}
theorem Ex.push {M : xM} {A : Nat → Prop} {Q : Array Value → State → Outcome → State → Prop} {mc ms pc ix r L cap c0 bk bn : Nat} {lv : List (Nat × Value)} {rest : List Value} {S Sr : List va_W} {C : va_W} {xs : List Int32} {x : Int32} (ic : Nat) (rs : List Nat) (hrow : IsRow D r L cap xs C) (hlt : xs.length < L) (hS : S[ic]? = some C) (hf : xfe M.2.2.2.2.2 pc = some (.invokevirtual ix)) (hlk : Lk M.2.1.cls ix mRo_push) (hc : pk S [ic] [C]) (hrr : pk S rs Sr) (hn2 : va_nd rs = true) (hdis : ∀ i ∈ rs, i ∉ [ic]) (hrm : (rest.map fun v => v.category).sum ≤ 8) (hc0 : c0 ≤ cap)
    (h1 : 3 ≤ R.frames) (h2 : 120 ≤ R.locals) (h3 : bk + (rcap cap xs.length - c0) / 8 ≤ R.cells) (h4 : bn + 2 * (rcap cap xs.length - c0) ≤ R.slots)
    (kk : ∀ C', IsRow D r L (rcap cap xs.length) (xs ++ [x]) C' → Ex l M D R A Q mc ms (pc + 3) lv (.int 1 :: rest) (Sr ++ [C']) (bk + (rcap cap xs.length - c0) / 8) (bn + 2 * (rcap cap xs.length - c0))) :
    Ex l M D R A Q mc ms pc lv (.int x :: .ref r :: rest) S (bk + (cap - c0) / 8) (bn + 2 * (cap - c0)) := by
  have hg := rcap_ge cap xs.length
  obtain ⟨arr, f, eC, -⟩ := id hrow
  have e1 : bk + (cap - c0) / 8 + (rcap cap xs.length - cap) / 8 ≤ bk + (rcap cap xs.length - c0) / 8 := by omega
  have e2 : bn + 2 * (cap - c0) + 2 * (rcap cap xs.length - cap) ≤ bn + 2 * (rcap cap xs.length - c0) := by omega
  refine Ex.cv (Mc := mRo_push) (Rc := rm 2 ((rcap cap xs.length - cap) / 8) (2 * (rcap cap xs.length - cap))) (As := [.int x]) (rest := rest) (Sr := Sr) (ic := ic) (jc := 0) (ci := 5) [ic] rs (ct_push hrow hlt (rm_ok _ _ _)) hf hlk lcRo_push rfl hc hrr rfl hn2 hdis hS (by rw [eC]; rfl) rfl (by decide) ⟨h1, by show 8 + (2 + 11) + 80 ≤ R.locals; omega⟩ hrm (Nat.le_trans e1 h3) (Nat.le_trans e2 h4) ?_
  rintro v S1 ⟨rfl, C', rfl, hC'⟩
  exact Ex.more e1 e2 (kk C' hC')
theorem ct_Ro_same {r q L1 L2 p1 p2 : Nat} {xs ys : List Int32} {C1 C2 : va_W} (h1 : IsRow D r L1 p1 xs C1) (h2 : IsRow D q L2 p2 ys C2) (hr : rmOk R 1 0 0) : Ct l mRo_same D R [.ref r, .ref q] [C1, C2] (fun v S => v = some (.int (b32 (decide (xs = ys)))) ∧ S = [C1, C2]) := by
  obtain ⟨a1, f1, rfl, x1, x2, x3, x4, x5, x6⟩ := id h1
  obtain ⟨a2, f2, rfl, y1, y2, y3, y4, y5, y6⟩ := id h2
  obtain ⟨r1, r2, r3, r4⟩ := hr
  refine Ct.of rfl (by decide) tkRo_same (Nat.le_of_ble_eq_true rfl) (fun A => ?_)
  repeat (first | refine Ex.p rfl ?_ | refine Ex.ldc rfl ?_ | refine Ex.ldc2 rfl ?_ | refine Ex.gf 0 0 rfl rfl rfl ?_ | refine Ex.gf 1 0 rfl rfl rfl ?_)
  refine Ex.br rfl (fun c1 => ?_) (fun c1 => ?_)
  · rw [nI_eq (by omega) (by omega)] at c1
    have loop : ∀ (m i : Nat), xs.length - i < m → i ≤ xs.length → (∀ j, j < i → xs[j]? = ys[j]?) → Ex l mRo_same D R A (xQ D A (fun v S => v = some (.int (b32 (decide (xs = ys)))) ∧ S = [sRow D r a1 p1 f1 L1 xs.length, sRow D q a2 p2 f2 L2 ys.length])) R.cells R.slots 15 [(2, .int (nI i)), (0, .ref r), (1, .ref q)] [] [sRow D r a1 p1 f1 L1 xs.length, sRow D q a2 p2 f2 L2 ys.length] 0 0 := by
      intro m
      induction m with
      | zero => intro i h; omega
      | succ m ih =>
        intro i hm hi hj
        repeat (first | refine Ex.p rfl ?_ | refine Ex.ldc rfl ?_ | refine Ex.ldc2 rfl ?_ | refine Ex.gf 0 0 rfl rfl rfl ?_)
        refine Ex.br rfl (fun c2 => ?_) (fun c2 => ?_)
        · rw [nI_leI (by omega) (by omega)] at c2
          repeat (first | refine Ex.p rfl ?_ | refine Ex.ldc rfl ?_ | refine Ex.ldc2 rfl ?_)
          refine Ex.zret rfl rfl (Or.inr rfl) (Nat.zero_le _) (Nat.zero_le _) rfl ⟨?_, rfl⟩
          have e : xs = ys := by
            refine List.ext_getElem? fun j => ?_
            rcases Nat.lt_or_ge j i with g | g
            · exact hj j g
            · rw [List.getElem?_eq_none (by omega), List.getElem?_eq_none (by omega)]
          rw [decide_eq_true e]; rfl
        · rw [nI_leI (by omega) (by omega)] at c2
          refine Ex.p rfl ?_
          refine Ex.p rfl ?_
          refine Ex.cv (Mc := mRo_get) (Rc := rm 0 0 0) (As := [.int (nI i)]) (rest := []) (Sr := [sRow D q a2 p2 f2 L2 ys.length]) (ic := 0) (jc := 0) (ci := 5) [0] [1] (ct_Ro_get h1) rfl lk_5_49 lcRo_get rfl rfl rfl rfl rfl (by decide) rfl rfl rfl (by decide) ⟨r1, by show 8 + (2 + 11) + 0 ≤ R.locals; omega⟩ (Nat.zero_le _) (Nat.zero_le _) (Nat.zero_le _) ?_
          rintro v S1 ⟨rfl, rfl⟩
          refine Ex.p rfl ?_
          refine Ex.p rfl ?_
          refine Ex.cv (Mc := mRo_get) (Rc := rm 0 0 0) (As := [.int (nI i)]) (rest := [.int (rget xs (nI i))]) (Sr := [sRow D r a1 p1 f1 L1 xs.length]) (ic := 0) (jc := 0) (ci := 5) [0] [1] (ct_Ro_get h2) rfl lk_5_49 lcRo_get rfl rfl rfl rfl rfl (by decide) rfl rfl rfl (by decide) ⟨r1, by show 8 + (2 + 11) + 0 ≤ R.locals; omega⟩ (Nat.le_of_ble_eq_true rfl) (Nat.zero_le _) (Nat.zero_le _) ?_
          rintro v S1 ⟨rfl, rfl⟩
          have g1 : rget xs (nI i) = xs.getD i 0 := by rw [rget, nI_toInt (by omega), if_pos (by omega)]; rfl
          have g2 : rget ys (nI i) = ys.getD i 0 := by rw [rget, nI_toInt (by omega), if_pos (by omega)]; rfl
          rw [g1, g2]
          have k1 : xs[i]? = some (xs.getD i 0) := by rw [List.getD_eq_getElem?_getD, List.getElem?_eq_getElem (show i < xs.length by omega)]; rfl
          have k2 : ys[i]? = some (ys.getD i 0) := by rw [List.getD_eq_getElem?_getD, List.getElem?_eq_getElem (show i < ys.length by omega)]; rfl
          refine Ex.br rfl (fun c3 => ?_) (fun c3 => ?_)
          · refine Ex.p rfl ?_
            refine Ex.p rfl ?_
            rw [i_add1]
            refine ih (i + 1) (by omega) (by omega) (fun j g => ?_)
            by_cases e : j = i
            · subst e; rw [k1, k2, c3]
            · exact hj j (by omega)
          · repeat (first | refine Ex.p rfl ?_ | refine Ex.ldc rfl ?_ | refine Ex.ldc2 rfl ?_)
            refine Ex.zret rfl rfl (Or.inl rfl) (Nat.zero_le _) (Nat.zero_le _) rfl ⟨?_, rfl⟩
            rw [decide_eq_false (fun e => c3 (by rw [e]))]; rfl
    refine Ex.p rfl ?_
    refine Ex.p rfl ?_
    exact loop (xs.length + 1) 0 (by omega) (by omega) (fun j g => by omega)
  · rw [nI_eq (by omega) (by omega)] at c1
    repeat (first | refine Ex.p rfl ?_ | refine Ex.ldc rfl ?_ | refine Ex.ldc2 rfl ?_)
    refine Ex.zret rfl rfl (Or.inl rfl) (Nat.zero_le _) (Nat.zero_le _) rfl ⟨?_, rfl⟩
    rw [decide_eq_false (fun e => c1 (by rw [e]))]; rfl
end RL
end
section
/-! Row.pushPart -/
/-- the digits of s from the place j on -/
def ds (s : Nat) : Nat → List Int32
  | 0 => []
  | j + 1 => (if 10 ^ j ≤ s ∨ j = 0 then [nI (48 + s / 10 ^ j % 10)] else []) ++ ds s j
theorem ds_len (s : Nat) : ∀ j, (ds s j).length ≤ j
  | 0 => Nat.le_refl _
  | j + 1 => by
    have := ds_len s j
    unfold ds
    split <;> simp <;> omega
/-- a letter and a number -/
def part (c v : Int32) : List Int32 := c :: ((if v.toInt < 0 then [45] else []) ++ ds v.toInt.natAbs 7)
theorem part_len (c v : Int32) : (part c v).length ≤ 9 := by
  have := ds_len v.toInt.natAbs 7
  unfold part
  split <;> simp <;> omega
def uv (j : Nat) : Nat := if j = 0 then 0 else 10 ^ (j - 1)
theorem uv_div : ∀ j, j < 8 → 0 < j → uv j / 10 = uv (j - 1) := by decide
theorem uv_pos : ∀ j, j < 8 → 0 < j → 0 < uv j ∧ uv j ≤ 1000000 := by decide
theorem abs_nat {v : Int32} (h : v.toInt.natAbs ≤ 10000000) : (if 0 ≤ v then v else 0 - v) = nI v.toInt.natAbs := by
  refine Int32.toInt_inj.mp ?_
  rw [nI_toInt (by omega)]
  split
  · rename_i h1
    rw [Int32.le_iff_toInt_le, i0_toInt] at h1
    omega
  · rename_i h1
    rw [Int32.le_iff_toInt_le, i0_toInt] at h1
    rw [Int32.toInt_sub, i0_toInt, Int.bmod_eq_of_le (by omega) (by omega)]
    omega
section RP
variable {l : Launch} {D : xD} {R : Room}
theorem ct_Ro_pushPart {r L cap : Nat} {xs : List Int32} {C : va_W} {c v : Int32} (h : IsRow D r L cap xs C) (hL : xs.length + 9 ≤ L) (hv : v.toInt.natAbs ≤ 1000000) (hr : rmOk R 3 ((capN cap xs.length (part c v).length - cap) / 8) (2 * (capN cap xs.length (part c v).length - cap))) :
    Ct l mRo_pushPart D R [.ref r, .int c, .int v] [C] (fun w S => w = none ∧ ∃ C', S = [C'] ∧ IsRow D r L (capN cap xs.length (part c v).length) (xs ++ part c v) C') := by
  obtain ⟨r1, r2, r3, r4⟩ := hr
  generalize hB : capN cap xs.length (part c v).length = B at r3 r4 ⊢
  refine Ct.of rfl (by decide) tkRo_pushPart (Nat.le_of_ble_eq_true rfl) (fun A => ?_)
  have loop : ∀ (j : Nat), j < 8 → ∀ (cp : Nat) (ys : List Int32) (C' : va_W), IsRow D r L cp ys C' → cap ≤ cp → ys.length + j ≤ L → ys ++ ds v.toInt.natAbs j = xs ++ part c v → capN cp ys.length (ds v.toInt.natAbs j).length = B →
      Ex l mRo_pushPart D R A (xQ D A (fun w S => w = none ∧ ∃ C', S = [C'] ∧ IsRow D r L B (xs ++ part c v) C')) R.cells R.slots 26 [(4, .int (nI (uv j))), (3, .int (nI v.toInt.natAbs)), (0, .ref r), (1, .int c), (2, .int v)] [] [C'] (0 + (cp - cap) / 8) (0 + 2 * (cp - cap)) := by
    intro j
    induction j with
    | zero =>
      intro _ cp ys C' hC' hcp _ e1 e2
      refine Ex.p rfl ?_
      refine Ex.br rfl (fun c1 => ?_) (fun c1 => absurd (by decide) c1)
      have e2 : cp = B := e2
      subst e2
      rw [show ds v.toInt.natAbs 0 = [] from rfl, List.append_nil] at e1
      subst e1
      exact Ex.vret rfl rfl (by omega) (by omega) rfl ⟨rfl, C', rfl, hC'⟩
    | succ j ih =>
      intro hj cp ys C' hC' hcp hys e1 e2
      obtain ⟨u1, u2⟩ := uv_pos (j + 1) hj (by omega)
      have hu : uv (j + 1) = 10 ^ j := rfl
      refine Ex.p rfl ?_
      refine Ex.br rfl (fun c1 => absurd c1 (nI_nle u1 (by omega))) (fun c1 => ?_)
      refine Ex.p rfl ?_
      refine Ex.p rfl ?_
      have hdiv : nI (uv (j + 1)) / (Int8.ofInt 10).toInt32 = nI (uv j) := by
        rw [show (Int8.ofInt 10).toInt32 = nI 10 from rfl, pk_div (by omega) (by omega) (by omega), uv_div (j + 1) hj (by omega)]; rfl
      have big : (10 ^ j ≤ v.toInt.natAbs ∨ j = 0) → Ex l mRo_pushPart D R A (xQ D A (fun w S => w = none ∧ ∃ C', S = [C'] ∧ IsRow D r L B (xs ++ part c v) C')) R.cells R.slots 43 [(4, .int (nI (uv (j + 1)))), (3, .int (nI v.toInt.natAbs)), (0, .ref r), (1, .int c), (2, .int v)] [] [C'] (0 + (cp - cap) / 8) (0 + 2 * (cp - cap)) := by
        intro hbig
        have e3 : ds v.toInt.natAbs (j + 1) = nI (48 + v.toInt.natAbs / uv (j + 1) % 10) :: ds v.toInt.natAbs j := by
          show (if 10 ^ j ≤ v.toInt.natAbs ∨ j = 0 then [nI (48 + v.toInt.natAbs / 10 ^ j % 10)] else []) ++ ds v.toInt.natAbs j = _
          rw [if_pos hbig]; rfl
        rw [e3] at e1 e2
        have e2 : capN (rcap cp ys.length) (ys.length + 1) (ds v.toInt.natAbs j).length = B := e2
        have hge := capN_ge (ds v.toInt.natAbs j).length (rcap cp ys.length) (ys.length + 1)
        have hge2 := rcap_ge cp ys.length
        refine Ex.p rfl ?_
        refine Ex.p rfl ?_
        refine Ex.p rfl ?_
        refine Ex.p rfl ?_
        refine Ex.idiv rfl (nI_ne0 u1 (by omega)) ?_
        rw [pk_div (by omega) u1 (by omega)]
        refine Ex.p rfl ?_
        refine Ex.irem rfl (by decide) ?_
        rw [show (Int8.ofInt 10).toInt32 = nI 10 from rfl, pk_rem (Nat.lt_of_le_of_lt (Nat.div_le_self _ _) (by omega)) (by omega) (by omega)]
        refine Ex.p rfl ?_
        rw [show (Int8.ofInt 48).toInt32 = nI 48 from rfl, nI_add]
        refine Ex.push (c0 := cap) (Sr := []) 0 [] hC' (by omega) rfl rfl lk_5_38 rfl rfl rfl (by decide) (Nat.zero_le _) hcp r1 r2 (by omega) (by omega) (fun C2 hC2 => ?_)
        refine Ex.p rfl ?_
        refine Ex.p rfl ?_
        refine Ex.p rfl ?_
        refine Ex.idiv rfl (by decide) ?_
        rw [hdiv]
        refine Ex.p rfl ?_
        refine Ex.p rfl ?_
        refine ih (by omega) _ _ C2 hC2 (by omega) (by simp; omega) ?_ ?_
        · rw [List.append_assoc]; exact e1
        · rw [List.length_append]; exact e2
      refine Ex.br rfl (fun c2 => ?_) (fun c2 => ?_)
      · rw [nI_leI (by omega) (by omega)] at c2
        exact big (Or.inl c2)
      · rw [nI_leI (by omega) (by omega)] at c2
        refine Ex.p rfl ?_
        refine Ex.p rfl ?_
        refine Ex.br rfl (fun c3 => ?_) (fun c3 => ?_)
        · have c3 : ¬ nI (uv (j + 1)) = nI 1 := c3
          rw [nI_eq (by omega) (by omega)] at c3
          have e3 : ds v.toInt.natAbs (j + 1) = ds v.toInt.natAbs j := by
            show (if 10 ^ j ≤ v.toInt.natAbs ∨ j = 0 then [nI (48 + v.toInt.natAbs / 10 ^ j % 10)] else []) ++ ds v.toInt.natAbs j = _
            rw [if_neg (by
              rintro (q | q)
              · exact c2 q
              · subst q; exact c3 rfl)]
            rfl
          rw [e3] at e1 e2
          refine Ex.p rfl ?_
          refine Ex.p rfl ?_
          refine Ex.idiv rfl (by decide) ?_
          rw [hdiv]
          refine Ex.p rfl ?_
          refine Ex.p rfl ?_
          exact ih (by omega) _ _ C' hC' hcp (by omega) e1 e2
        · have c3 : ¬ ¬ nI (uv (j + 1)) = nI 1 := c3
          rw [nI_eq (by omega) (by omega)] at c3
          refine big (Or.inr ?_)
          cases j with
          | zero => rfl
          | succ j =>
            exfalso
            apply c3
            intro q
            rw [hu] at q
            have : ∀ j, j < 7 → 10 ≤ 10 ^ (j + 1) := by decide
            have := this j (by omega)
            omega
  have fin : ∀ (cp : Nat) (ys : List Int32) (C' : va_W), IsRow D r L cp ys C' → cap ≤ cp → ys.length + 7 ≤ L → ys ++ ds v.toInt.natAbs 7 = xs ++ part c v → capN cp ys.length (ds v.toInt.natAbs 7).length = B →
      Ex l mRo_pushPart D R A (xQ D A (fun w S => w = none ∧ ∃ C', S = [C'] ∧ IsRow D r L B (xs ++ part c v) C')) R.cells R.slots 17 [(0, .ref r), (1, .int c), (2, .int v)] [] [C'] (0 + (cp - cap) / 8) (0 + 2 * (cp - cap)) := by
    intro cp ys C' hC' hcp hys e1 e2
    have hge := capN_ge (ds v.toInt.natAbs 7).length cp ys.length
    refine Ex.p rfl ?_
    refine Ex.mabs rfl lk_5_42 (by omega) (by simp; omega) (by omega) (by omega) ?_
    rw [abs_nat (by omega)]
    refine Ex.p rfl ?_
    refine Ex.ldc rfl ?_
    refine Ex.p rfl ?_
    exact loop 7 (by decide) cp ys C' hC' hcp hys e1 e2
  have hx := id h
  obtain ⟨arr, f, rfl, x1, x2, x3, x4, x5, x6⟩ := hx
  refine Ex.more (k' := 0 + (cap - cap) / 8) (n' := 0 + 2 * (cap - cap)) (Nat.zero_le _) (Nat.zero_le _) ?_
  have hBd : capN (rcap cap xs.length) (xs.length + 1) ((if v.toInt < 0 then [45] else []) ++ ds v.toInt.natAbs 7).length = B := hB
  have hge := capN_ge ((if v.toInt < 0 then [45] else []) ++ ds v.toInt.natAbs 7).length (rcap cap xs.length) (xs.length + 1)
  have hge2 := rcap_ge cap xs.length
  refine Ex.p rfl ?_
  refine Ex.p rfl ?_
  refine Ex.push (c0 := cap) (Sr := []) 0 [] h (by omega) rfl rfl lk_5_38 rfl rfl rfl (by decide) (Nat.zero_le _) (Nat.le_refl _) r1 r2 (by omega) (by omega) (fun C2 hC2 => ?_)
  refine Ex.p rfl ?_
  refine Ex.p rfl ?_
  refine Ex.br rfl (fun c1 => ?_) (fun c1 => ?_)
  · rw [Int32.le_iff_toInt_le, i0_toInt] at c1
    have ep : part c v = c :: ds v.toInt.natAbs 7 := by rw [part, if_neg (by omega)]; rfl
    rw [if_neg (by omega)] at hBd
    refine fin _ _ C2 hC2 hge2 (by simp; omega) ?_ ?_
    · rw [ep, List.append_assoc]; rfl
    · rw [List.length_append]; exact hBd
  · rw [Int32.le_iff_toInt_le, i0_toInt] at c1
    have ep : part c v = c :: 45 :: ds v.toInt.natAbs 7 := by rw [part, if_pos (by omega)]; rfl
    rw [if_pos (by omega)] at hBd hge
    have hBd : capN (rcap (rcap cap xs.length) (xs.length + 1)) (xs.length + 1 + 1) (ds v.toInt.natAbs 7).length = B := hBd
    have hge3 := capN_ge (ds v.toInt.natAbs 7).length (rcap (rcap cap xs.length) (xs.length + 1)) (xs.length + 1 + 1)
    have hge4 := rcap_ge (rcap cap xs.length) (xs.length + 1)
    have hlen : (xs ++ [c]).length = xs.length + 1 := by simp
    refine Ex.p rfl ?_
    refine Ex.p rfl ?_
    refine Ex.push (c0 := cap) (Sr := []) 0 [] hC2 (by rw [hlen]; omega) rfl rfl lk_5_38 rfl rfl rfl (by decide) (Nat.zero_le _) hge2 r1 r2 (by rw [hlen]; omega) (by rw [hlen]; omega) (fun C3 hC3 => ?_)
    rw [hlen] at hC3 ⊢
    refine Ex.p rfl ?_
    refine fin _ _ C3 hC3 (by omega) (by simp; omega) ?_ ?_
    · rw [ep, List.append_assoc, List.append_assoc]; rfl
    · rw [List.length_append, hlen]; exact hBd
end RP
end
section
/-! String constants: length, charAt; Row.pushText -/
theorem lf38 : Cond.fieldLink "java/lang/String" 38 "java/lang/String" "COMPACT_STRINGS" "Z" ∈ gTB := gw 287 (by decide +kernel) rfl
theorem lf9 : Cond.fieldLink "java/lang/String" 9 "java/lang/String" "value" "[B" ∈ gTB := gw 1218 (by decide +kernel) rfl
theorem lf15 : Cond.fieldLink "java/lang/String" 15 "java/lang/String" "coder" "B" ∈ gTB := gw 1219 (by decide +kernel) rfl
theorem lf1053 : Cond.fieldLink "java/lang/String" 1053 "jdk/internal/util/Preconditions" "SIOOBE_FORMATTER" "Ljava/util/function/BiFunction;" ∈ gTB := gw 307 (by decide +kernel) rfl
/-- a text's characters -/
def txt (t : Nat) : List Int32 := gSB.getD t []
theorem txt_len : ∀ t, t < gSN → (txt t).length = gSL.getD t 0 := by decide +kernel
theorem txt_ch : ∀ t, t < gSN → ∀ j, j < (txt t).length → (((txt t).getD j 0 &&& (Int16.ofInt 255).toInt32).toUInt32 % 65536).toInt32 = (txt t).getD j 0 ∧ narrow .char (.int ((txt t).getD j 0)) = .int ((txt t).getD j 0) := by decide +kernel
section ST
variable {l : Launch} {D : xD} {R : Room}
theorem ct_coder {t : Nat} (ht : t < gSN) : Ct l mJSt_coder D R [.ref (D.2.2.2.1 t)] [] (fun v S => v = some (.int 0) ∧ S = []) := by
  refine Ct.of rfl (by decide) tkJSt_coder (Nat.le_of_ble_eq_true rfl) (fun A => ?_)
  refine Ex.gst1 rfl lf38 ?_
  refine Ex.br rfl (fun c => absurd c (by decide)) (fun _ => ?_)
  refine Ex.p rfl ?_
  refine Ex.sgc ht rfl lf15 ?_
  refine Ex.p rfl ?_
  exact Ex.nret (ty := .byte) rfl rfl rfl (Nat.zero_le _) (Nat.zero_le _) rfl ⟨rfl, rfl⟩
theorem ct_isLatin1 {t : Nat} (ht : t < gSN) : Ct l mJSt_isLatin1 D R [.ref (D.2.2.2.1 t)] [] (fun v S => v = some (.int 1) ∧ S = []) := by
  refine Ct.of rfl (by decide) tkJSt_isLatin1 (Nat.le_of_ble_eq_true rfl) (fun A => ?_)
  refine Ex.gst1 rfl lf38 ?_
  refine Ex.br rfl (fun c => absurd c (by decide)) (fun _ => ?_)
  refine Ex.p rfl ?_
  refine Ex.sgc ht rfl lf15 ?_
  refine Ex.br rfl (fun c => absurd rfl c) (fun _ => ?_)
  repeat (first | refine Ex.p rfl ?_ | refine Ex.ldc rfl ?_ | refine Ex.ldc2 rfl ?_)
  exact Ex.zret rfl rfl (Or.inr rfl) (Nat.zero_le _) (Nat.zero_le _) rfl ⟨rfl, rfl⟩
theorem ct_prCheck {x y : Int32} {w : Option Nat} (h0 : 0 ≤ x.toInt) (h1 : x.toInt < y.toInt) : Ct l mJPr_checkIndex D R [.int x, .int y, va_rf w] [] (fun v S => v = some (.int x) ∧ S = []) := by
  refine Ct.of rfl (by decide) tkJPr_checkIndex (by cases w <;> exact Nat.le_of_ble_eq_true rfl) (fun A => ?_)
  cases w with
  | none =>
    refine Ex.p rfl ?_
    refine Ex.br rfl (fun c => absurd c (by rw [Int32.lt_iff_toInt_lt, i0_toInt]; omega)) (fun _ => ?_)
    refine Ex.p rfl ?_
    refine Ex.p rfl ?_
    refine Ex.br rfl (fun _ => ?_) (fun c => absurd (Int32.lt_iff_toInt_lt.mpr h1) c)
    refine Ex.p rfl ?_
    exact Ex.iret rfl rfl (Nat.zero_le _) (Nat.zero_le _) rfl ⟨rfl, rfl⟩
  | some a =>
    refine Ex.p rfl ?_
    refine Ex.br rfl (fun c => absurd c (by rw [Int32.lt_iff_toInt_lt, i0_toInt]; omega)) (fun _ => ?_)
    refine Ex.p rfl ?_
    refine Ex.p rfl ?_
    refine Ex.br rfl (fun _ => ?_) (fun c => absurd (Int32.lt_iff_toInt_lt.mpr h1) c)
    refine Ex.p rfl ?_
    exact Ex.iret rfl rfl (Nat.zero_le _) (Nat.zero_le _) rfl ⟨rfl, rfl⟩
theorem ct_stCheck {x y : Int32} (h0 : 0 ≤ x.toInt) (h1 : x.toInt < y.toInt) (hr : rmOk R 1 0 0) : Ct l mJSt_checkIndex D R [.int x, .int y] [] (fun v S => v = none ∧ S = []) := by
  obtain ⟨r1, r2, r3, r4⟩ := hr
  refine Ct.of rfl (by decide) tkJSt_checkIndex (Nat.le_of_ble_eq_true rfl) (fun A => ?_)
  refine Ex.p rfl ?_
  refine Ex.p rfl ?_
  refine Ex.gstF rfl lf1053 (fun w => ?_)
  refine Ex.cs0 (Mc := mJPr_checkIndex) (Rc := rm 0 0 0) (As := [.int x, .int y, va_rf w]) (rest := []) (ct_prCheck h0 h1) rfl lk_16_1059 lcJPr_checkIndex rfl ⟨r1, by show 8 + (3 + 11) + 0 ≤ R.locals; omega⟩ (Nat.zero_le _) (Nat.zero_le _) (Nat.zero_le _) ?_
  rintro v S1 ⟨rfl, rfl⟩
  refine Ex.p rfl ?_
  exact Ex.vret rfl rfl (Nat.zero_le _) (Nat.zero_le _) rfl ⟨rfl, rfl⟩
theorem ct_slCharAt {t j : Nat} (ht : t < gSN) (hj : j < (txt t).length) (hr : rmOk R 2 0 0) : Ct l mJSl_charAt D R [.ref (D.2.2.2.2 t), .int (nI j)] [] (fun v S => v = some (.int ((txt t).getD j 0)) ∧ S = []) := by
  obtain ⟨r1, r2, r3, r4⟩ := hr
  have hb : ∀ t, t < gSN → gSL.getD t 0 < 100 := by decide
  have hlen := txt_len t ht
  have := hb t ht
  obtain ⟨e1, e2⟩ := txt_ch t ht j hj
  refine Ct.of rfl (by decide) tkJSl_charAt (Nat.le_of_ble_eq_true rfl) (fun A => ?_)
  refine Ex.p rfl ?_
  refine Ex.p rfl ?_
  refine Ex.slen ht rfl ?_
  refine Ex.cs0 (Mc := mJSt_checkIndex) (Rc := rm 1 0 0) (As := [.int (nI j), .int (nI (gSL.getD t 0))]) (rest := []) (ct_stCheck (by rw [nI_toInt (by omega)]; omega) (by rw [nI_toInt (by omega), nI_toInt (by omega)]; omega) (rm_ok _ _ _)) rfl lk_17_9 lcJSt_checkIndex rfl ⟨r1, by show 8 + (2 + 11) + 40 ≤ R.locals; omega⟩ (Nat.zero_le _) (Nat.zero_le _) (Nat.zero_le _) ?_
  rintro v S1 ⟨rfl, rfl⟩
  refine Ex.p rfl ?_
  refine Ex.p rfl ?_
  refine Ex.sbl j ht rfl (nI_toInt (by omega)) (by omega) ?_
  show Ex l mJSl_charAt D R A _ _ _ _ _ [.int ((txt t).getD j 0)] [] _ _
  refine Ex.p rfl ?_
  refine Ex.p rfl ?_
  refine Ex.p rfl ?_
  rw [e1]
  exact Ex.nret (ty := .char) rfl rfl e2 (Nat.zero_le _) (Nat.zero_le _) rfl ⟨rfl, rfl⟩
theorem ct_length {t : Nat} (ht : t < gSN) (hr : rmOk R 1 0 0) : Ct l mJSt_length D R [.ref (D.2.2.2.1 t)] [] (fun v S => v = some (.int (nI (txt t).length)) ∧ S = []) := by
  obtain ⟨r1, r2, r3, r4⟩ := hr
  have hlen := txt_len t ht
  refine Ct.of rfl (by decide) tkJSt_length (Nat.le_of_ble_eq_true rfl) (fun A => ?_)
  refine Ex.p rfl ?_
  refine Ex.sgv ht rfl lf9 ?_
  refine Ex.slen ht rfl ?_
  refine Ex.p rfl ?_
  refine Ex.cvS (Mc := mJSt_coder) (Rc := rm 0 0 0) (t := t) (As := []) (rest := [.int (nI (gSL.getD t 0))]) (ct_coder ht) ht rfl rfl lk_16_335 lcJSt_coder rfl ⟨r1, by show 8 + (1 + 11) + 0 ≤ R.locals; omega⟩ (Nat.le_of_ble_eq_true rfl) (Nat.zero_le _) (Nat.zero_le _) ?_
  rintro v S1 ⟨rfl, rfl⟩
  refine Ex.p rfl ?_
  rw [sb_shr0, ← hlen]
  exact Ex.iret rfl rfl (Nat.zero_le _) (Nat.zero_le _) rfl ⟨rfl, rfl⟩
theorem ct_charAt {t j : Nat} (ht : t < gSN) (hj : j < (txt t).length) (hr : rmOk R 3 0 0) : Ct l mJSt_charAt D R [.ref (D.2.2.2.1 t), .int (nI j)] [] (fun v S => v = some (.int ((txt t).getD j 0)) ∧ S = []) := by
  obtain ⟨r1, r2, r3, r4⟩ := hr
  obtain ⟨e1, e2⟩ := txt_ch t ht j hj
  refine Ct.of rfl (by decide) tkJSt_charAt (Nat.le_of_ble_eq_true rfl) (fun A => ?_)
  refine Ex.p rfl ?_
  refine Ex.cvS (Mc := mJSt_isLatin1) (Rc := rm 0 0 0) (t := t) (As := []) (rest := []) (ct_isLatin1 ht) ht rfl rfl lk_16_492 lcJSt_isLatin1 rfl ⟨by dsimp only [rm]; omega, by show 8 + (1 + 11) + 0 ≤ R.locals; omega⟩ (Nat.zero_le _) (Nat.zero_le _) (Nat.zero_le _) ?_
  rintro v S1 ⟨rfl, rfl⟩
  refine Ex.br rfl (fun c => absurd c (by decide)) (fun _ => ?_)
  refine Ex.p rfl ?_
  refine Ex.sgv ht rfl lf9 ?_
  refine Ex.p rfl ?_
  refine Ex.cs0 (Mc := mJSl_charAt) (Rc := rm 2 0 0) (As := [.ref (D.2.2.2.2 t), .int (nI j)]) (rest := []) (ct_slCharAt ht hj (rm_ok _ _ _)) rfl lk_16_495 lcJSl_charAt rfl ⟨r1, by show 8 + (2 + 11) + 80 ≤ R.locals; omega⟩ (Nat.zero_le _) (Nat.zero_le _) (Nat.zero_le _) ?_
  rintro v S1 ⟨rfl, rfl⟩
  exact Ex.nret (ty := .char) rfl rfl e2 (Nat.zero_le _) (Nat.zero_le _) rfl ⟨rfl, rfl⟩
end ST
end
section
/-! Row.pushText -/
section PT
variable {l : Launch} {D : xD} {R : Room}
theorem ct_Ro_pushText {r L cap t : Nat} {xs : List Int32} {C : va_W} (h : IsRow D r L cap xs C) (ht : t < gSN) (hL : xs.length + (txt t).length ≤ L) (hr : rmOk R 4 ((capN cap xs.length (txt t).length - cap) / 8) (2 * (capN cap xs.length (txt t).length - cap))) :
    Ct l mRo_pushText D R [.ref r, .ref (D.2.2.2.1 t)] [C] (fun w S => w = none ∧ ∃ C', S = [C'] ∧ IsRow D r L (capN cap xs.length (txt t).length) (xs ++ txt t) C') := by
  obtain ⟨r1, r2, r3, r4⟩ := hr
  have hb : ∀ t, t < gSN → (txt t).length < 100 := by decide
  have hb := hb t ht
  generalize hB : capN cap xs.length (txt t).length = B at r3 r4 ⊢
  refine Ct.of rfl (by decide) tkRo_pushText (Nat.le_of_ble_eq_true rfl) (fun A => ?_)
  have loop : ∀ (m i : Nat), (txt t).length - i < m → i ≤ (txt t).length → ∀ (cp : Nat) (C' : va_W), IsRow D r L cp (xs ++ (txt t).take i) C' → cap ≤ cp → capN cp (xs.length + i) ((txt t).length - i) = B →
      Ex l mRo_pushText D R A (xQ D A (fun w S => w = none ∧ ∃ C', S = [C'] ∧ IsRow D r L B (xs ++ txt t) C')) R.cells R.slots 2 [(2, .int (nI i)), (0, .ref r), (1, .ref (D.2.2.2.1 t))] [] [C'] (0 + (cp - cap) / 8) (0 + 2 * (cp - cap)) := by
    intro m
    induction m with
    | zero => intro i h; omega
    | succ m ih =>
      intro i hm hi cp C' hC' hcp e2
      have hge := capN_ge ((txt t).length - i) cp (xs.length + i)
      refine Ex.p rfl ?_
      refine Ex.p rfl ?_
      refine Ex.cvS (Mc := mJSt_length) (Rc := rm 1 0 0) (t := t) (As := []) (rest := [.int (nI i)]) (ct_length ht (rm_ok _ _ _)) ht rfl rfl lk_5_28 lcJSt_length rfl ⟨by dsimp only [rm]; omega, by show 8 + (1 + 11) + 40 ≤ R.locals; omega⟩ (Nat.le_of_ble_eq_true rfl) (by dsimp only [rm]; omega) (by dsimp only [rm]; omega) ?_
      rintro v S1 ⟨rfl, rfl⟩
      refine Ex.br rfl (fun c1 => ?_) (fun c1 => ?_)
      · rw [nI_leI (by omega) (by omega)] at c1
        have hi9 : i = (txt t).length := by omega
        subst hi9
        rw [Nat.sub_self] at e2
        have e2 : cp = B := e2
        subst e2
        rw [List.take_length] at hC'
        exact Ex.vret rfl rfl (by dsimp only [rm]; omega) (by dsimp only [rm]; omega) rfl ⟨rfl, C', rfl, hC'⟩
      · rw [nI_leI (by omega) (by omega)] at c1
        have hi9 : i < (txt t).length := by omega
        rw [show (txt t).length - i = ((txt t).length - (i + 1)) + 1 by omega] at e2
        have e2 : capN (rcap cp (xs.length + i)) (xs.length + i + 1) ((txt t).length - (i + 1)) = B := e2
        have hge2 := capN_ge ((txt t).length - (i + 1)) (rcap cp (xs.length + i)) (xs.length + i + 1)
        have hge3 := rcap_ge cp (xs.length + i)
        have hlen : (xs ++ (txt t).take i).length = xs.length + i := by simp; omega
        refine Ex.p rfl ?_
        refine Ex.p rfl ?_
        refine Ex.p rfl ?_
        refine Ex.cvS (Mc := mJSt_charAt) (Rc := rm 3 0 0) (t := t) (As := [.int (nI i)]) (rest := [.ref r]) (ct_charAt ht hi9 (rm_ok _ _ _)) ht rfl rfl lk_5_34 lcJSt_charAt rfl ⟨by dsimp only [rm]; omega, by show 8 + (2 + 11) + 120 ≤ R.locals; omega⟩ (Nat.le_of_ble_eq_true rfl) (by dsimp only [rm]; omega) (by dsimp only [rm]; omega) ?_
        rintro v S1 ⟨rfl, rfl⟩
        refine Ex.more (k' := 0 + (cp - cap) / 8) (n' := 0 + 2 * (cp - cap)) (by dsimp only [rm]; omega) (by dsimp only [rm]; omega) ?_
        refine Ex.push (c0 := cap) (Sr := []) 0 [] hC' (by rw [hlen]; omega) rfl rfl lk_5_38 rfl rfl rfl (by decide) (Nat.zero_le _) hcp (by omega) (by omega) (by rw [hlen]; omega) (by rw [hlen]; omega) (fun C2 hC2 => ?_)
        rw [hlen] at hC2 ⊢
        refine Ex.p rfl ?_
        refine Ex.p rfl ?_
        refine Ex.p rfl ?_
        rw [i_add1]
        refine ih (i + 1) (by omega) (by omega) _ C2 ?_ (by omega) ?_
        · rw [List.append_assoc] at hC2
          rw [List.take_succ, List.getElem?_eq_getElem hi9]
          rw [List.getD_eq_getElem?_getD, List.getElem?_eq_getElem hi9] at hC2
          exact hC2
        · rw [← Nat.add_assoc]; exact e2
  have hx := id h
  obtain ⟨arr, f, rfl, x1, x2, x3, x4, x5, x6⟩ := hx
  refine Ex.more (k' := 0 + (cap - cap) / 8) (n' := 0 + 2 * (cap - cap)) (Nat.zero_le _) (Nat.zero_le _) ?_
  refine Ex.p rfl ?_
  refine Ex.p rfl ?_
  exact loop ((txt t).length + 1) 0 (by omega) (by omega) cap _ (by simpa using h) (Nat.le_refl _) hB
end PT
end
section
/-! StoredFile: a role, bytes, their sum -/
def fsumA (v : Nat) : Nat → List Nat → Nat
  | _, [] => v
  | k, b :: bs => fsumA ((v + b * (k + 1)) % 65521) (k + 1) bs
/-- the sum of bytes, each times its place -/
def fsum (bs : List Nat) : Nat := fsumA 0 0 bs
theorem fsumA_snoc : ∀ (bs : List Nat) (v k b : Nat), fsumA v k (bs ++ [b]) = (fsumA v k bs + b * (k + bs.length + 1)) % 65521
  | [], v, k, b => rfl
  | x :: bs, v, k, b => by
    show fsumA ((v + x * (k + 1)) % 65521) (k + 1) (bs ++ [b]) = (fsumA ((v + x * (k + 1)) % 65521) (k + 1) bs + b * (k + (bs.length + 1) + 1)) % 65521
    rw [fsumA_snoc bs, show k + 1 + bs.length + 1 = k + (bs.length + 1) + 1 by omega]
theorem fsum_snoc (bs : List Nat) (b : Nat) : fsum (bs ++ [b]) = (fsum bs + b * (bs.length + 1)) % 65521 := by
  unfold fsum
  rw [fsumA_snoc, Nat.zero_add]
theorem fsumA_lt : ∀ (bs : List Nat) (v k : Nat), v < 65521 → fsumA v k bs < 65521
  | [], _, _, h => h
  | _ :: bs, _, _, _ => fsumA_lt bs _ _ (Nat.mod_lt _ (by decide))
theorem fsum_lt (bs : List Nat) : fsum bs < 65521 := fsumA_lt bs 0 0 (by decide)
def IsFile (D : xD) (a role : Nat) (bs : List Nat) (cap : Nat) (C : va_W) : Prop :=
  ∃ (rb : Nat) (Cb : va_W), C = (a, .inr (6, [.int (nI role), .ref rb, .int (nI (fsum bs))])) :: Cb ∧ IsRow D rb 300 cap (bs.map nI) Cb ∧ role < 8 ∧ ∀ b ∈ bs, b < 256
/-- a file's part of an archive -/
def fbytes (role : Nat) (bs : List Nat) : List Nat := role :: bs.length % 256 :: bs.length / 256 :: (bs ++ [fsum bs % 256, fsum bs / 256])
section SF
variable {l : Launch} {D : xD} {R : Room}
theorem ct_Sf_init {a role : Nat} (hro : role < 8) (hr : rmOk R 2 2 11) : Ct l mSf_init D R [.ref a, .int (nI role)] [[(a, .inr (6, gdf 6))]] (fun v S => v = none ∧ ∃ C, S = [C] ∧ IsFile D a role [] 8 C) := by
  obtain ⟨r1, r2, r3, r4⟩ := hr
  refine Ct.of rfl (by decide) tkSf_init (Nat.le_of_ble_eq_true rfl) (fun A => ?_)
  refine Ex.p rfl ?_
  refine Ex.oi rfl lk_6_3 (by omega) (by simp; omega) ?_
  refine Ex.p rfl ?_
  refine Ex.new (ci := 5) (N := 3) rfl rfl (by omega) (by omega) (fun q => ?_)
  refine Ex.p rfl ?_
  refine Ex.p rfl ?_
  refine Ex.ci (Mc := mRo_init) (Rc := rm 1 1 8) (As := [.int (nI 300)]) (rest := [.ref q, .ref a]) (Sr := [[(a, .inr (6, gdf 6))]]) [1] [0] (ct_Ro_init (by decide) (Nat.le_refl _) (by decide) (Nat.le_refl _) (Nat.le_refl _)) rfl lk_6_11 lcRo_init rfl rfl rfl rfl rfl (by decide) ⟨r1, by show 8 + (2 + 11) + 40 ≤ R.locals; omega⟩ (Nat.le_of_ble_eq_true rfl) (by dsimp only [rm]; omega) (by dsimp only [rm]; omega) ?_
  rintro v S1 ⟨rfl, C1, rfl, hC1⟩
  refine Ex.pfF 0 0 rfl rfl rfl rfl rfl rfl rfl rfl ?_
  refine Ex.p rfl ?_
  refine Ex.p rfl ?_
  refine Ex.pfF 0 0 rfl rfl rfl rfl rfl rfl rfl rfl ?_
  refine Ex.vret (S' := [(a, .inr (6, [.int (nI role), .ref q, .int (nI 0)])) :: C1]) rfl rfl (by dsimp only [rm]; omega) (by dsimp only [rm]; omega) ?_ ⟨rfl, _, rfl, q, C1, rfl, hC1, hro, fun b h => by simp at h⟩
  simp
  rfl
theorem ct_Sf_push {a role cap b : Nat} {bs : List Nat} {C : va_W} (h : IsFile D a role bs cap C) (hb : b < 256) (hr : rmOk R 3 ((rcap cap bs.length - cap) / 8) (2 * (rcap cap bs.length - cap))) : Ct l mSf_push D R [.ref a, .int (nI b)] [C] (fun v S => (300 ≤ bs.length ∧ v = some (.int 0) ∧ S = [C]) ∨ (bs.length < 300 ∧ v = some (.int 1) ∧ ∃ C', S = [C'] ∧ IsFile D a role (bs ++ [b]) (rcap cap bs.length) C')) := by
  obtain ⟨rb, Cb, rfl, hrow, hro, hbs⟩ := h
  obtain ⟨r1, r2, r3, r4⟩ := hr
  have hg := rcap_ge cap bs.length
  have hfs := fsum_lt bs
  have hlen : (bs.map nI).length = bs.length := by simp
  refine Ct.of rfl (by decide) tkSf_push (Nat.le_of_ble_eq_true rfl) (fun A => ?_)
  refine Ex.seg (S' := [[(a, .inr (6, [.int (nI role), .ref rb, .int (nI (fsum bs))]))], Cb]) (by simp) ?_
  repeat (first | refine Ex.p rfl ?_ | refine Ex.ldc rfl ?_ | refine Ex.ldc2 rfl ?_ | refine Ex.gf 0 0 rfl rfl rfl ?_)
  obtain ⟨arr, f, eC, w1, w2, w3, w4, w5, w6⟩ := id hrow
  rw [hlen] at w1 w2
  refine Ex.cv (Mc := mRo_push) (Rc := rm 2 ((rcap cap bs.length - cap) / 8) (2 * (rcap cap bs.length - cap))) (As := [.int (nI b)]) (rest := []) (Sr := [[(a, .inr (6, [.int (nI role), .ref rb, .int (nI (fsum bs))]))]]) (ic := 1) (jc := 0) (ci := 5) [1] [0] (ct_Ro_push hrow (Nat.le_refl _) (by show 62 ≤ 40 * 2; decide) (by
    rw [hlen]
    by_cases q : bs.length < cap
    · exact Or.inr (Or.inl q)
    · refine Or.inr (Or.inr ?_)
      rw [rcap, if_neg q]
      dsimp only [rm]
      omega)) rfl lk_6_24 lcRo_push rfl rfl rfl rfl rfl (by decide) rfl (by rw [eC]; rfl) rfl (by decide) ⟨r1, by show 8 + (2 + 11) + 80 ≤ R.locals; omega⟩ (Nat.zero_le _) (by dsimp only [rm]; omega) (by dsimp only [rm]; omega) ?_
  rintro v S1 (⟨hlt, rfl, C1, rfl, hC1⟩ | ⟨hge, rfl, rfl⟩)
  · rw [hlen] at hlt hC1
    refine Ex.br rfl (fun _ => ?_) (fun c1 => absurd (by decide) c1)
    obtain ⟨arr2, f2, rfl, -⟩ := id hC1
    repeat (first | refine Ex.p rfl ?_ | refine Ex.ldc rfl ?_ | refine Ex.ldc2 rfl ?_ | refine Ex.gf 0 0 rfl rfl rfl ?_ | refine Ex.gf 1 0 rfl rfl rfl ?_)
    have e1 : nI (fsum bs) + nI b * nI (bs.map nI ++ [nI b]).length = nI (fsum bs + b * (bs.length + 1)) := by
      rw [pk_mul, nI_add]; simp
    rw [e1]
    have hm : b * (bs.length + 1) ≤ 255 * 300 := Nat.mul_le_mul (by omega) (by omega)
    refine Ex.irem rfl (by decide) ?_
    rw [show (65521 : Int32) = nI 65521 from rfl, pk_rem (by omega) (by omega) (by omega), ← fsum_snoc]
    refine Ex.pf 0 0 rfl rfl rfl rfl rfl rfl ?_
    refine Ex.p rfl ?_
    refine Ex.zret (S' := [(a, .inr (6, [.int (nI role), .ref rb, .int (nI (fsum (bs ++ [b])))])) :: sRow D rb arr2 (rcap cap bs.length) f2 300 (bs.map nI ++ [nI b]).length]) rfl rfl (Or.inr rfl) (by dsimp only [rm]; omega) (by dsimp only [rm]; omega) (by simp) (Or.inr ⟨hlt, rfl, _, rfl, rb, _, rfl, by simpa using hC1, hro, ?_⟩)
    intro x hx
    rcases List.mem_append.mp hx with q | q
    · exact hbs x q
    · rw [List.mem_singleton.mp q]; exact hb
  · rw [hlen] at hge
    refine Ex.br rfl (fun c1 => absurd rfl c1) (fun _ => ?_)
    refine Ex.p rfl ?_
    exact Ex.zret (S' := [(a, .inr (6, [.int (nI role), .ref rb, .int (nI (fsum bs))])) :: Cb]) rfl rfl (Or.inl rfl) (by dsimp only [rm]; omega) (by dsimp only [rm]; omega) (by simp) (Or.inl ⟨hge, rfl, rfl⟩)
end SF
end
section
/-! StoredFile: joinedSize, joined -/
theorem rget_nI {bs : List Nat} {j : Nat} (hj : j < bs.length) (hb : bs.length < 2 ^ 31) : rget (bs.map nI) (nI j) = nI (bs.getD j 0) := by
  rw [rget, nI_toInt (by omega), if_pos (by simp; omega)]
  simp [List.getD_eq_getElem?_getD, hj]
section SF2
variable {l : Launch} {D : xD} {R : Room}
theorem ct_Sf_joinedSize {a role cap : Nat} {bs : List Nat} {C : va_W} (h : IsFile D a role bs cap C) : Ct l mSf_joinedSize D R [.ref a] [C] (fun v S => v = some (.int (nI (bs.length + 5))) ∧ S = [C]) := by
  obtain ⟨rb, Cb, rfl, hrow, hro, hbs⟩ := h
  obtain ⟨arr, f, rfl, w1, w2, w3, w4, w5, w6⟩ := id hrow
  refine Ct.of rfl (by decide) tkSf_joinedSize (Nat.le_of_ble_eq_true rfl) (fun A => ?_)
  repeat (first | refine Ex.p rfl ?_ | refine Ex.ldc rfl ?_ | refine Ex.ldc2 rfl ?_ | refine Ex.gf 0 0 rfl rfl rfl ?_ | refine Ex.gf 0 1 rfl rfl rfl ?_)
  rw [show (Int32.ofInt 3) = nI 3 from rfl, show (Int32.ofInt 2) = nI 2 from rfl, nI_add, nI_add, show 3 + (bs.map nI).length + 2 = bs.length + 5 by simp; omega]
  exact Ex.iret rfl rfl (Nat.zero_le _) (Nat.zero_le _) rfl ⟨rfl, rfl⟩
theorem ct_Sf_joined {a role cap j : Nat} {bs : List Nat} {C : va_W} (h : IsFile D a role bs cap C) (hj : j < bs.length + 5) (hr : rmOk R 1 0 0) : Ct l mSf_joined D R [.ref a, .int (nI j)] [C] (fun v S => v = some (.int (nI ((fbytes role bs).getD j 0))) ∧ S = [C]) := by
  obtain ⟨rb, Cb, rfl, hrow, hro, hbs⟩ := h
  obtain ⟨r1, r2, r3, r4⟩ := hr
  obtain ⟨arr, f, rfl, w1, w2, w3, w4, w5, w6⟩ := id hrow
  have hlen : (bs.map nI).length = bs.length := by simp
  rw [hlen] at w1 w2
  have hfs := fsum_lt bs
  have hti : (nI j).toInt = j := nI_toInt (by omega)
  refine Ct.of rfl (by decide) tkSf_joined (Nat.le_of_ble_eq_true rfl) (fun A => ?_)
  repeat (first | refine Ex.p rfl ?_ | refine Ex.ldc rfl ?_ | refine Ex.ldc2 rfl ?_ | refine Ex.gf 0 0 rfl rfl rfl ?_ | refine Ex.gf 0 1 rfl rfl rfl ?_)
  rw [hlen]
  by_cases h0 : j = 0
  · subst h0
    refine Ex.swI (t := 36) tsSf_joined_9 (by decide) (by decide) rfl rfl ?_
    repeat (first | refine Ex.p rfl ?_ | refine Ex.ldc rfl ?_ | refine Ex.ldc2 rfl ?_ | refine Ex.gf 0 0 rfl rfl rfl ?_)
    exact Ex.iret rfl rfl (Nat.zero_le _) (Nat.zero_le _) rfl ⟨rfl, rfl⟩
  by_cases h1 : j = 1
  · subst h1
    refine Ex.swI (t := 41) tsSf_joined_9 (by decide) (by decide) rfl rfl ?_
    repeat (first | refine Ex.p rfl ?_ | refine Ex.ldc rfl ?_ | refine Ex.ldc2 rfl ?_ | refine Ex.gf 0 0 rfl rfl rfl ?_)
    refine Ex.irem rfl (by decide) ?_
    rw [show (Int16.ofInt 256).toInt32 = nI 256 from rfl, pk_rem (by omega) (by omega) (by omega)]
    exact Ex.iret rfl rfl (Nat.zero_le _) (Nat.zero_le _) rfl ⟨rfl, rfl⟩
  by_cases h2 : j = 2
  · subst h2
    refine Ex.swI (t := 47) tsSf_joined_9 (by decide) (by decide) rfl rfl ?_
    repeat (first | refine Ex.p rfl ?_ | refine Ex.ldc rfl ?_ | refine Ex.ldc2 rfl ?_ | refine Ex.gf 0 0 rfl rfl rfl ?_)
    refine Ex.idiv rfl (by decide) ?_
    rw [show (Int16.ofInt 256).toInt32 = nI 256 from rfl, pk_div (by omega) (by omega) (by omega)]
    exact Ex.iret rfl rfl (Nat.zero_le _) (Nat.zero_le _) rfl ⟨rfl, rfl⟩
  refine Ex.swO (t := 53) tsSf_joined_9 (Or.inr (by rw [hti]; omega)) rfl ?_
  obtain ⟨i, rfl⟩ : ∃ i, j = i + 3 := ⟨j - 3, by omega⟩
  have hget : (fbytes role bs).getD (i + 3) 0 = (bs ++ [fsum bs % 256, fsum bs / 256]).getD i 0 := rfl
  refine Ex.p rfl ?_
  refine Ex.p rfl ?_
  refine Ex.p rfl ?_
  rw [show nI (i + 3) - Int32.ofInt 3 = nI i from by rw [show Int32.ofInt 3 = nI 3 from rfl, pk_sub (by omega)]; rfl]
  refine Ex.p rfl ?_
  refine Ex.p rfl ?_
  refine Ex.p rfl ?_
  refine Ex.br rfl (fun c1 => ?_) (fun c1 => ?_)
  · rw [nI_leI (by omega) (by omega)] at c1
    refine Ex.p rfl ?_
    refine Ex.p rfl ?_
    refine Ex.br rfl (fun c2 => ?_) (fun c2 => ?_)
    · have c2 : ¬ nI i = nI bs.length := c2
      rw [nI_eq (by omega) (by omega)] at c2
      repeat (first | refine Ex.p rfl ?_ | refine Ex.ldc rfl ?_ | refine Ex.ldc2 rfl ?_ | refine Ex.gf 0 0 rfl rfl rfl ?_)
      refine Ex.idiv rfl (by decide) ?_
      rw [show (Int16.ofInt 256).toInt32 = nI 256 from rfl, pk_div (by omega) (by omega) (by omega)]
      refine Ex.iret rfl rfl (Nat.zero_le _) (Nat.zero_le _) rfl ⟨?_, rfl⟩
      rw [hget, show i = bs.length + 1 by omega]
      simp [List.getD_eq_getElem?_getD]
    · have c2 : ¬ ¬ nI i = nI bs.length := c2
      rw [nI_eq (by omega) (by omega)] at c2
      repeat (first | refine Ex.p rfl ?_ | refine Ex.ldc rfl ?_ | refine Ex.ldc2 rfl ?_ | refine Ex.gf 0 0 rfl rfl rfl ?_)
      refine Ex.irem rfl (by decide) ?_
      rw [show (Int16.ofInt 256).toInt32 = nI 256 from rfl, pk_rem (by omega) (by omega) (by omega)]
      refine Ex.p rfl ?_
      refine Ex.iret rfl rfl (Nat.zero_le _) (Nat.zero_le _) rfl ⟨?_, rfl⟩
      rw [hget, show i = bs.length by omega]
      simp [List.getD_eq_getElem?_getD]
  · rw [nI_leI (by omega) (by omega)] at c1
    repeat (first | refine Ex.p rfl ?_ | refine Ex.ldc rfl ?_ | refine Ex.ldc2 rfl ?_ | refine Ex.gf 0 0 rfl rfl rfl ?_)
    refine Ex.seg (S' := [[(a, .inr (6, [.int (nI role), .ref rb, .int (nI (fsum bs))]))], sRow D rb arr cap f 300 (bs.map nI).length]) (by simp) ?_
    refine Ex.cv (Mc := mRo_get) (Rc := rm 0 0 0) (As := [.int (nI i)]) (rest := []) (Sr := [[(a, .inr (6, [.int (nI role), .ref rb, .int (nI (fsum bs))]))]]) (ic := 1) (jc := 0) (ci := 5) [1] [0] (ct_Ro_get hrow) rfl lk_6_35 lcRo_get rfl rfl rfl rfl rfl (by decide) rfl rfl rfl (by decide) ⟨r1, by show 8 + (2 + 11) + 0 ≤ R.locals; omega⟩ (Nat.zero_le _) (Nat.zero_le _) (Nat.zero_le _) ?_
    rintro v S1 ⟨rfl, rfl⟩
    refine Ex.iret (S' := [(a, .inr (6, [.int (nI role), .ref rb, .int (nI (fsum bs))])) :: sRow D rb arr cap f 300 bs.length]) rfl rfl (Nat.zero_le _) (Nat.zero_le _) (by simp) ⟨?_, rfl⟩
    rw [rget_nI (by omega) (by omega), hget, List.getD_eq_getElem?_getD, List.getD_eq_getElem?_getD, List.getElem?_append_left (by omega)]
end SF2
/-! lists of things, one behind another -/
def IsL {α : Type} (P : α → va_W → Prop) (xs : List α) (T : va_W) : Prop := ∃ Cs : List va_W, T = Cs.flatten ∧ Cs.length = xs.length ∧ ∀ (i : Nat) (t : α), xs[i]? = some t → ∃ C, Cs[i]? = some C ∧ P t C
theorem IsL.nil {α : Type} {P : α → va_W → Prop} : IsL P [] [] := ⟨[], rfl, rfl, fun i t h => by simp at h⟩
theorem IsL.at {α : Type} {P : α → va_W → Prop} {ts : List α} {T : va_W} (h : IsL P ts T) {i : Nat} {t : α} (hi : ts[i]? = some t) : ∃ X C Y, T = X ++ (C ++ Y) ∧ P t C ∧ ∀ t' C', P t' C' → IsL P (ts.set i t') (X ++ (C' ++ Y)) := by
  obtain ⟨Cs, rfl, hl, h⟩ := h
  obtain ⟨C, hC, ht⟩ := h i t hi
  obtain ⟨hi1, hi2⟩ := List.getElem?_eq_some_iff.mp hi
  obtain ⟨hc1, hc2⟩ := List.getElem?_eq_some_iff.mp hC
  refine ⟨(Cs.take i).flatten, C, (Cs.drop (i + 1)).flatten, ?_, ht, fun t' C' ht' => ⟨Cs.set i C', ?_, by simp [hl], fun j u hj => ?_⟩⟩
  · rw [← hc2, ← List.flatten_cons, ← List.flatten_append, ← List.drop_eq_getElem_cons hc1, List.take_append_drop]
  · rw [List.set_eq_take_append_cons_drop, if_pos hc1, List.flatten_append, List.flatten_cons]
  · by_cases hij : i = j
    · subst hij
      rw [List.getElem?_set_self hi1] at hj
      cases hj
      exact ⟨C', by rw [List.getElem?_set_self hc1], ht'⟩
    · rw [List.getElem?_set_ne hij] at hj
      rw [List.getElem?_set_ne hij]
      exact h j u hj
theorem IsL.push {α : Type} {P : α → va_W → Prop} {ts : List α} {T C : va_W} {t : α} (h : IsL P ts T) (hC : P t C) : IsL P (ts ++ [t]) (T ++ C) := by
  obtain ⟨Cs, rfl, hl, h⟩ := h
  refine ⟨Cs ++ [C], by simp, by simp [hl], fun i u hi => ?_⟩
  rcases Nat.lt_or_ge i ts.length with q | q
  · rw [List.getElem?_append_left q] at hi
    rw [List.getElem?_append_left (by omega)]
    exact h i u hi
  · rw [List.getElem?_append_right q] at hi
    rw [List.getElem?_append_right (by omega), hl]
    cases hk : i - ts.length with
    | zero =>
      rw [hk] at hi
      cases hi
      exact ⟨C, rfl, hC⟩
    | succ k =>
      rw [hk] at hi
      cases hi
/-- the first cell of the one at i -/
theorem mid_at {X C Y : va_W} {x : Nat × va_E} {Z : va_W} (h : C = x :: Z) : (X ++ (C ++ Y))[X.length]? = some x := by
  subst h
  rw [List.getElem?_append_right (Nat.le_refl _)]
  simp
end
section
/-! FileSet -/
abbrev FV : Type := Nat × Nat × List Nat × Nat
def IsF (D : xD) (x : FV) (C : va_W) : Prop := IsFile D x.1 x.2.1 x.2.2.1 x.2.2.2 C
def IsFs (D : xD) (f : Nat) (fs : List FV) (Cf F : va_W) : Prop :=
  ∃ (fa : Nat) (ff : Nat → Option Nat), Cf = [(f, .inr (2, [.ref fa, .int (nI fs.length)])), (fa, .inl (D.2.2.1 5, 8, .inr (.inr (.inr (.inr ff)))))] ∧ IsL (IsF D) fs F ∧ (∀ (i : Nat) (x : FV), fs[i]? = some x → ff i = some x.1) ∧ fs.length ≤ 8
def fwith (fs : List FV) (role : Nat) : Option FV := fs.find? (fun x => x.2.1 == role)
section FS
variable {l : Launch} {D : xD} {R : Room}
theorem ct_Fs_init {f : Nat} (hr : rmOk R 1 1 8) : Ct l mFs_init D R [.ref f] [[(f, .inr (2, gdf 2))]] (fun v S => v = none ∧ ∃ Cf, S = [Cf] ∧ IsFs D f [] Cf []) := by
  obtain ⟨r1, r2, r3, r4⟩ := hr
  refine Ct.of rfl (by decide) tkFs_init (Nat.le_of_ble_eq_true rfl) (fun A => ?_)
  refine Ex.p rfl ?_
  refine Ex.oi rfl lk_2_3 (by omega) (by simp; omega) ?_
  refine Ex.p rfl ?_
  refine Ex.p rfl ?_
  refine Ex.newa (N := 8) (ci := 6) (t0 := 5) (cn := "DrillArchive$StoredFile") rfl rfl (by decide) (by decide) rfl rfl (by decide) (by omega) (by omega) (fun q => ?_)
  refine Ex.pfF 0 0 rfl rfl rfl rfl rfl rfl rfl rfl ?_
  exact Ex.vret (S' := [[(f, .inr (2, [.ref q, .int (nI 0)])), (q, .inl (D.2.2.1 5, 8, .inr (.inr (.inr (.inr (fun _ => none))))))]]) rfl rfl (by omega) (by omega) rfl ⟨rfl, _, rfl, q, _, rfl, IsL.nil, fun i t h => by simp at h, by decide⟩
theorem ct_Fs_fileAt {f : Nat} {fs : List FV} {Cf F : va_W} {i : Int32} (h : IsFs D f fs Cf F) : Ct l mFs_fileAt D R [.ref f, .int i] [Cf] (fun v S => v = some (va_rf ((ixo fs i).map (fun t => t.1))) ∧ S = [Cf]) := by
  obtain ⟨fa, ff, rfl, hF, h1, h3⟩ := h
  refine Ct.of rfl (by decide) tkFs_fileAt (Nat.le_of_ble_eq_true rfl) (fun A => ?_)
  refine Ex.p rfl ?_
  refine Ex.br rfl (fun c1 => ?_) (fun c1 => ?_)
  · rw [Int32.lt_iff_toInt_lt, i0_toInt] at c1
    repeat (first | refine Ex.p rfl ?_ | refine Ex.ldc rfl ?_ | refine Ex.ldc2 rfl ?_)
    refine Ex.aret rfl rfl (Or.inl rfl) (Nat.zero_le _) (Nat.zero_le _) rfl ⟨?_, rfl⟩
    rw [ixo_none (Or.inl c1)]; rfl
  · rw [Int32.lt_iff_toInt_lt, i0_toInt] at c1
    repeat (first | refine Ex.p rfl ?_ | refine Ex.ldc rfl ?_ | refine Ex.ldc2 rfl ?_ | refine Ex.gf 0 0 rfl rfl rfl ?_)
    refine Ex.br rfl (fun c2 => ?_) (fun c2 => ?_)
    · rw [Int32.le_iff_toInt_le, nI_toInt (by omega)] at c2
      repeat (first | refine Ex.p rfl ?_ | refine Ex.ldc rfl ?_ | refine Ex.ldc2 rfl ?_)
      refine Ex.aret rfl rfl (Or.inl rfl) (Nat.zero_le _) (Nat.zero_le _) rfl ⟨?_, rfl⟩
      rw [ixo_none (Or.inr c2)]; rfl
    · rw [Int32.le_iff_toInt_le, nI_toInt (by omega)] at c2
      repeat (first | refine Ex.p rfl ?_ | refine Ex.ldc rfl ?_ | refine Ex.ldc2 rfl ?_ | refine Ex.gf 0 0 rfl rfl rfl ?_)
      refine Ex.aal 0 1 i.toInt.toNat 5 rfl rfl rfl rfl (by omega) (by omega) ?_
      repeat (first | refine Ex.p rfl ?_ | refine Ex.ldc rfl ?_ | refine Ex.ldc2 rfl ?_)
      refine Ex.aret rfl rfl (va_rf_or _) (Nat.zero_le _) (Nat.zero_le _) rfl ⟨?_, rfl⟩
      have hlt : i.toInt.toNat < fs.length := by omega
      rw [h1 _ _ (List.getElem?_eq_getElem hlt), ixo, if_pos (by omega), List.getElem?_eq_getElem hlt]
      rfl
theorem ct_Fs_withRole {f role : Nat} {fs : List FV} {Cf F : va_W} (h : IsFs D f fs Cf F) (hro : role < 8) (hr : rmOk R 1 0 0) : Ct l mFs_withRole D R [.ref f, .int (nI role)] [Cf, F] (fun v S => v = some (va_rf ((fwith fs role).map (fun t => t.1))) ∧ S = [Cf, F]) := by
  have h9 := h
  obtain ⟨fa, ff, rfl, hF, h1, h3⟩ := h
  obtain ⟨r1, r2, r3, r4⟩ := hr
  refine Ct.of rfl (by decide) tkFs_withRole (Nat.le_of_ble_eq_true rfl) (fun A => ?_)
  have loop : ∀ (m i : Nat), fs.length - i < m → i ≤ fs.length → fwith fs role = fwith (fs.drop i) role → ∀ lv9 : List (Nat × Value), Ex l mFs_withRole D R A (xQ D A (fun v S => v = some (va_rf ((fwith fs role).map (fun t => t.1))) ∧ S = [[(f, .inr (2, [.ref fa, .int (nI fs.length)])), (fa, .inl (D.2.2.1 5, 8, .inr (.inr (.inr (.inr ff)))))], F])) R.cells R.slots 2 [(2, .int (nI i)), (0, .ref f), (1, .int (nI role))] [] [[(f, .inr (2, [.ref fa, .int (nI fs.length)])), (fa, .inl (D.2.2.1 5, 8, .inr (.inr (.inr (.inr ff)))))], F] 0 0 := by
    intro m
    induction m with
    | zero => intro i h; omega
    | succ m ih =>
      intro i hm hi hw lv9
      repeat (first | refine Ex.p rfl ?_ | refine Ex.ldc rfl ?_ | refine Ex.ldc2 rfl ?_ | refine Ex.gf 0 0 rfl rfl rfl ?_)
      refine Ex.br rfl (fun c1 => ?_) (fun c1 => ?_)
      · rw [nI_leI (by omega) (by omega)] at c1
        refine Ex.p rfl ?_
        refine Ex.aret rfl rfl (Or.inl rfl) (Nat.zero_le _) (Nat.zero_le _) rfl ⟨?_, rfl⟩
        rw [hw, List.drop_eq_nil_of_le (by omega)]
        rfl
      · rw [nI_leI (by omega) (by omega)] at c1
        have hlt : i < fs.length := by omega
        refine Ex.p rfl ?_
        refine Ex.p rfl ?_
        refine Ex.cv (Mc := mFs_fileAt) (Rc := rm 0 0 0) (As := [.int (nI i)]) (rest := []) (Sr := [F]) (ic := 0) (jc := 0) (ci := 2) [0] [1] (ct_Fs_fileAt h9) rfl lk_2_32 lcFs_fileAt rfl rfl rfl rfl rfl (by decide) rfl rfl rfl (by decide) ⟨r1, by show 8 + (2 + 11) + 0 ≤ R.locals; omega⟩ (Nat.zero_le _) (Nat.zero_le _) (Nat.zero_le _) ?_
        rintro v S1 ⟨rfl, rfl⟩
        rw [ixo, nI_toInt (by omega), if_pos (by omega), Int.toNat_natCast, List.getElem?_eq_getElem hlt]
        refine Ex.p rfl ?_
        refine Ex.p rfl ?_
        refine Ex.nuR rfl ?_
        refine Ex.p rfl ?_
        obtain ⟨X, C, Y, rfl, ⟨rb, Cb, eC, -, hro2, -⟩, -⟩ := hF.at (List.getElem?_eq_getElem hlt)
        refine Ex.gf 0 X.length rfl (mid_at eC) rfl ?_
        refine Ex.p rfl ?_
        refine Ex.sub (S' := [[(f, .inr (2, [.ref fa, .int (nI fs.length)])), (fa, .inl (D.2.2.1 5, 8, .inr (.inr (.inr (.inr ff)))))], X ++ (C ++ Y)]) [1, 0] rfl rfl ?_
        have hd : fs.drop i = fs[i] :: fs.drop (i + 1) := List.drop_eq_getElem_cons hlt
        refine Ex.br rfl (fun c2 => ?_) (fun c2 => ?_)
        · have c2 : ¬ nI fs[i].2.1 = nI role := c2
          rw [nI_eq (by omega) (by omega)] at c2
          refine Ex.p rfl ?_
          refine Ex.p rfl ?_
          rw [i_add1]
          refine Ex.is [0, 2, 3] rfl rfl ?_
          refine ih (i + 1) (by omega) (by omega) ?_ []
          rw [hw, hd, fwith, List.find?_cons_of_neg (by simpa using c2)]
          rfl
        · have c2 : ¬ ¬ nI fs[i].2.1 = nI role := c2
          rw [nI_eq (by omega) (by omega)] at c2
          refine Ex.p rfl ?_
          refine Ex.aret rfl rfl (Or.inr ⟨_, rfl⟩) (Nat.zero_le _) (Nat.zero_le _) rfl ⟨?_, rfl⟩
          rw [hw, hd, fwith, List.find?_cons_of_pos (by simpa using c2)]
          rfl
  refine Ex.p rfl ?_
  refine Ex.p rfl ?_
  exact loop (fs.length + 1) 0 (by omega) (by omega) rfl []
end FS
end
section
/-! FileSet: add, pair, joined -/
section FS2
variable {l : Launch} {D : xD} {R : Room}
theorem ct_Fs_add {f ro : Nat} {fs : List FV} {Cf F : va_W} (h : IsFs D f fs Cf F) (hro : ro < 256) (hr : rmOk R 3 3 14) : Ct l mFs_add D R [.ref f, .int (nI ro)] [Cf, F] (fun v S => ((8 ≤ ro ∨ fwith fs ro ≠ none ∨ 8 ≤ fs.length) ∧ v = some (.int (-1)) ∧ S = [Cf, F]) ∨ (ro < 8 ∧ fwith fs ro = none ∧ fs.length < 8 ∧ v = some (.int (nI fs.length)) ∧ ∃ q Cf' F', S = [Cf', F'] ∧ IsFs D f (fs ++ [(q, ro, [], 8)]) Cf' F')) := by
  have h9 := h
  obtain ⟨fa, ff, rfl, hF, h1, h3⟩ := h
  obtain ⟨r1, r2, r3, r4⟩ := hr
  have hti : (nI ro).toInt = ro := nI_toInt (by omega)
  refine Ct.of rfl (by decide) tkFs_add (Nat.le_of_ble_eq_true rfl) (fun A => ?_)
  refine Ex.p rfl ?_
  refine Ex.cs0N (Mc := mDa_isRole) (Rc := rm 0 0 0) (As := [.int (nI ro)]) (rest := []) ct_isRole rfl ln_2_17 lcDa_isRole rfl ⟨by dsimp only [rm]; omega, by show 8 + (1 + 11) + 0 ≤ R.locals; omega⟩ (Nat.zero_le _) (Nat.zero_le _) (Nat.zero_le _) ?_
  rintro v S1 ⟨rfl, rfl⟩
  rw [hti]
  by_cases h8 : ro < 8
  · rw [decide_eq_true (by omega)]
    refine Ex.br rfl (fun c => absurd c (by decide)) (fun _ => ?_)
    refine Ex.p rfl ?_
    refine Ex.p rfl ?_
    refine Ex.cv (Mc := mFs_withRole) (Rc := rm 1 0 0) (As := [.int (nI ro)]) (rest := []) (Sr := []) (ic := 0) (jc := 0) (ci := 2) [0, 1] [] (ct_Fs_withRole h9 h8 (rm_ok _ _ _)) rfl lk_2_21 lcFs_withRole rfl rfl rfl rfl rfl (by decide) rfl rfl rfl (by decide) ⟨by dsimp only [rm]; omega, by show 8 + (4 + 11) + 40 ≤ R.locals; omega⟩ (Nat.zero_le _) (Nat.zero_le _) (Nat.zero_le _) ?_
    rintro v S1 ⟨rfl, rfl⟩
    cases hw : fwith fs ro with
    | some x =>
      refine Ex.nnR (t := 24) rfl rfl ?_
      refine Ex.p rfl ?_
      exact Ex.iret rfl rfl (Nat.zero_le _) (Nat.zero_le _) rfl (Or.inl ⟨Or.inr (Or.inl (by simp)), rfl, rfl⟩)
    | none =>
      refine Ex.nnN rfl ?_
      repeat (first | refine Ex.p rfl ?_ | refine Ex.ldc rfl ?_ | refine Ex.ldc2 rfl ?_ | refine Ex.gf 0 0 rfl rfl rfl ?_)
      refine Ex.br rfl (fun c1 => ?_) (fun c1 => ?_)
      · have c1 : nI fs.length < nI 8 := c1
        rw [nI_ltI (by omega) (by omega)] at c1
        repeat (first | refine Ex.p rfl ?_ | refine Ex.ldc rfl ?_ | refine Ex.ldc2 rfl ?_ | refine Ex.gf 0 0 rfl rfl rfl ?_)
        refine Ex.new (ci := 6) (N := 3) rfl rfl (by dsimp only [rm]; omega) (by dsimp only [rm]; omega) (fun q => ?_)
        refine Ex.p rfl ?_
        refine Ex.p rfl ?_
        refine Ex.ci (Mc := mSf_init) (Rc := rm 2 2 11) (As := [.int (nI ro)]) (rest := [.ref q, .int (nI fs.length), .ref fa]) (Sr := [[(f, .inr (2, [.ref fa, .int (nI fs.length)])), (fa, .inl (D.2.2.1 5, 8, .inr (.inr (.inr (.inr ff)))))], F]) [2] [0, 1] (ct_Sf_init h8 (rm_ok _ _ _)) rfl lk_2_29 lcSf_init rfl rfl rfl rfl rfl (by decide) ⟨r1, by show 8 + (2 + 11) + 80 ≤ R.locals; omega⟩ (Nat.le_of_ble_eq_true rfl) (by dsimp only [rm]; omega) (by dsimp only [rm]; omega) ?_
        rintro v S1 ⟨rfl, C, rfl, hC⟩
        obtain ⟨rb, Cb, eC, -⟩ := id hC
        refine Ex.aas 0 1 fs.length 5 2 0 6 rfl rfl rfl rfl rfl (by rw [eC]; rfl) rfl (nI_toInt (by omega)) c1 ?_
        repeat (first | refine Ex.p rfl ?_ | refine Ex.ldc rfl ?_ | refine Ex.ldc2 rfl ?_ | refine Ex.gf 0 0 rfl rfl rfl ?_)
        rw [i_add1]
        refine Ex.pf 0 0 rfl rfl rfl rfl rfl rfl ?_
        repeat (first | refine Ex.p rfl ?_ | refine Ex.ldc rfl ?_ | refine Ex.ldc2 rfl ?_ | refine Ex.gf 0 0 rfl rfl rfl ?_)
        rw [i_sub1]
        refine Ex.iret (S' := [[(f, .inr (2, [.ref fa, .int (nI (fs.length + 1))])), (fa, .inl (D.2.2.1 5, 8, .inr (.inr (.inr (.inr (va_up ff fs.length (some q)))))))], F ++ C]) rfl rfl (by dsimp only [rm]; omega) (by dsimp only [rm]; omega) (by simp) (Or.inr ⟨h8, rfl, c1, rfl, q, _, _, rfl, fa, va_up ff fs.length (some q), by simp, hF.push hC, ?_, by simp; omega⟩)
        intro i t hi
        rcases Nat.lt_or_ge i fs.length with g | g
        · rw [List.getElem?_append_left g] at hi
          rw [va_up_ne _ _ (by omega)]
          exact h1 i t hi
        · rw [List.getElem?_append_right g] at hi
          cases hk : i - fs.length with
          | zero =>
            rw [hk] at hi
            cases hi
            rw [show i = fs.length by omega, va_up_self]
          | succ k =>
            rw [hk] at hi
            cases hi
      · have c1 : ¬ nI fs.length < nI 8 := c1
        rw [nI_ltI (by omega) (by omega)] at c1
        refine Ex.p rfl ?_
        exact Ex.iret rfl rfl (Nat.zero_le _) (Nat.zero_le _) rfl (Or.inl ⟨Or.inr (Or.inr (by omega)), rfl, rfl⟩)
  · rw [decide_eq_false (by omega)]
    refine Ex.br rfl (fun _ => ?_) (fun c => absurd rfl c)
    refine Ex.p rfl ?_
    exact Ex.iret rfl rfl (Nat.zero_le _) (Nat.zero_le _) rfl (Or.inl ⟨Or.inl (by omega), rfl, rfl⟩)
theorem ct_Fs_pair {r L cap p : Nat} {bs : List Nat} {C : va_W} (h : IsRow D r L cap (bs.map nI) C) (hb : ∀ b ∈ bs, b < 256) (hp : p + 1 < bs.length) (hr : rmOk R 1 0 0) : Ct l mFs_pair D R [.ref r, .int (nI p)] [C] (fun v S => v = some (.int (nI (bs.getD p 0 + 256 * bs.getD (p + 1) 0))) ∧ S = [C]) := by
  obtain ⟨r1, r2, r3, r4⟩ := hr
  obtain ⟨arr, f, rfl, w1, w2, w3, w4, w5, w6⟩ := id h
  have hlen : (bs.map nI).length = bs.length := by simp
  refine Ct.of rfl (by decide) tkFs_pair (Nat.le_of_ble_eq_true rfl) (fun A => ?_)
  refine Ex.p rfl ?_
  refine Ex.p rfl ?_
  refine Ex.cv (Mc := mRo_get) (Rc := rm 0 0 0) (As := [.int (nI p)]) (rest := []) (Sr := []) (ic := 0) (jc := 0) (ci := 5) [0] [] (ct_Ro_get h) rfl lk_2_46 lcRo_get rfl rfl rfl rfl rfl (by decide) rfl rfl rfl (by decide) ⟨r1, by show 8 + (2 + 11) + 0 ≤ R.locals; omega⟩ (Nat.zero_le _) (Nat.zero_le _) (Nat.zero_le _) ?_
  rintro v S1 ⟨rfl, rfl⟩
  refine Ex.p rfl ?_
  refine Ex.p rfl ?_
  refine Ex.p rfl ?_
  refine Ex.p rfl ?_
  refine Ex.p rfl ?_
  rw [i_add1]
  refine Ex.cv (Mc := mRo_get) (Rc := rm 0 0 0) (As := [.int (nI (p + 1))]) (rest := [.int (Int16.ofInt 256).toInt32, .int (rget (bs.map nI) (nI p))]) (Sr := []) (ic := 0) (jc := 0) (ci := 5) [0] [] (ct_Ro_get h) rfl lk_2_46 lcRo_get rfl rfl rfl rfl rfl (by decide) rfl rfl rfl (by decide) ⟨r1, by show 8 + (2 + 11) + 0 ≤ R.locals; omega⟩ (Nat.le_of_ble_eq_true rfl) (Nat.zero_le _) (Nat.zero_le _) ?_
  rintro v S1 ⟨rfl, rfl⟩
  rw [rget_nI (by omega) (by omega), rget_nI (by omega) (by omega)]
  refine Ex.p rfl ?_
  refine Ex.p rfl ?_
  rw [show (Int16.ofInt 256).toInt32 = nI 256 from rfl, pk_mul, nI_add]
  exact Ex.iret rfl rfl (Nat.zero_le _) (Nat.zero_le _) rfl ⟨rfl, rfl⟩
/-- the byte at a place, -1 behind the last -/
def bat (bs : List Nat) (j : Nat) : Int32 := match bs[j]? with
  | some b => nI b
  | none => -1
/-- all files' parts -/
def fall (fs : List FV) : List Nat := fs.flatMap (fun x => fbytes x.2.1 x.2.2.1)
theorem fbytes_len (role : Nat) (bs : List Nat) : (fbytes role bs).length = bs.length + 5 := by simp [fbytes]
theorem ct_Fs_joined {f j : Nat} {fs : List FV} {Cf F : va_W} (h : IsFs D f fs Cf F) (hj : j < 2 ^ 31) (hr : rmOk R 2 0 0) : Ct l mFs_joined D R [.ref f, .int (nI j)] [Cf, F] (fun v S => v = some (.int (bat (fs.length :: fall fs) j)) ∧ S = [Cf, F]) := by
  have h9 := h
  obtain ⟨fa, ff, rfl, hF, h1, h3⟩ := h
  obtain ⟨r1, r2, r3, r4⟩ := hr
  refine Ct.of rfl (by decide) tkFs_joined (Nat.le_of_ble_eq_true rfl) (fun A => ?_)
  refine Ex.p rfl ?_
  refine Ex.br rfl (fun c0 => ?_) (fun c0 => ?_)
  · have hj0 : 0 < j := by
      rcases Nat.eq_zero_or_pos j with q | q
      · subst q; exact absurd rfl c0
      · exact q
    have loop : ∀ (m i : Nat), fs.length - i < m → i ≤ fs.length → ∀ (lf : Nat), lf < 2 ^ 31 → bat (fs.length :: fall fs) j = bat (fall (fs.drop i)) lf → Ex l mFs_joined D R A (xQ D A (fun v S => v = some (.int (bat (fs.length :: fall fs) j)) ∧ S = [[(f, .inr (2, [.ref fa, .int (nI fs.length)])), (fa, .inl (D.2.2.1 5, 8, .inr (.inr (.inr (.inr ff)))))], F])) R.cells R.slots 15 [(3, .int (nI i)), (2, .int (nI lf)), (0, .ref f), (1, .int (nI j))] [] [[(f, .inr (2, [.ref fa, .int (nI fs.length)])), (fa, .inl (D.2.2.1 5, 8, .inr (.inr (.inr (.inr ff)))))], F] 0 0 := by
      intro m
      induction m with
      | zero => intro i h; omega
      | succ m ih =>
        intro i hm hi lf hlf hw
        repeat (first | refine Ex.p rfl ?_ | refine Ex.ldc rfl ?_ | refine Ex.ldc2 rfl ?_ | refine Ex.gf 0 0 rfl rfl rfl ?_)
        refine Ex.br rfl (fun c1 => ?_) (fun c1 => ?_)
        · rw [nI_leI (by omega) (by omega)] at c1
          refine Ex.p rfl ?_
          refine Ex.iret rfl rfl (Nat.zero_le _) (Nat.zero_le _) rfl ⟨?_, rfl⟩
          rw [hw, List.drop_eq_nil_of_le (by omega)]
          rfl
        · rw [nI_leI (by omega) (by omega)] at c1
          have hlt : i < fs.length := by omega
          refine Ex.p rfl ?_
          refine Ex.p rfl ?_
          refine Ex.cv (Mc := mFs_fileAt) (Rc := rm 0 0 0) (As := [.int (nI i)]) (rest := []) (Sr := [F]) (ic := 0) (jc := 0) (ci := 2) [0] [1] (ct_Fs_fileAt h9) rfl lk_2_32 lcFs_fileAt rfl rfl rfl rfl rfl (by decide) rfl rfl rfl (by decide) ⟨by dsimp only [rm]; omega, by show 8 + (2 + 11) + 0 ≤ R.locals; omega⟩ (Nat.zero_le _) (Nat.zero_le _) (Nat.zero_le _) ?_
          rintro v S1 ⟨rfl, rfl⟩
          rw [ixo, nI_toInt (by omega), if_pos (by omega), Int.toNat_natCast, List.getElem?_eq_getElem hlt]
          refine Ex.p rfl ?_
          refine Ex.p rfl ?_
          refine Ex.nuR rfl ?_
          refine Ex.p rfl ?_
          refine Ex.p rfl ?_
          obtain ⟨X, C, Y, rfl, hC, -⟩ := hF.at (List.getElem?_eq_getElem hlt)
          obtain ⟨rb, Cb, eC, hrow, hro2, hbs⟩ := id hC
          obtain ⟨_, _, _, w1, w2, -⟩ := id hrow
          have hbl : fs[i].2.2.1.length ≤ 300 := by simpa using w2
          refine Ex.seg (S' := [X, C, Y, [(f, .inr (2, [.ref fa, .int (nI fs.length)])), (fa, .inl (D.2.2.1 5, 8, .inr (.inr (.inr (.inr ff)))))]]) (by simp) ?_
          refine Ex.cv (Mc := mSf_joinedSize) (Rc := rm 0 0 0) (As := []) (rest := [.int (nI lf)]) (Sr := [X, Y, [(f, .inr (2, [.ref fa, .int (nI fs.length)])), (fa, .inl (D.2.2.1 5, 8, .inr (.inr (.inr (.inr ff)))))]]) (ic := 1) (jc := 0) (ci := 6) [1] [0, 2, 3] (ct_Sf_joinedSize hC) rfl lk_2_38 lcSf_joinedSize rfl rfl rfl rfl rfl (by decide) rfl (by rw [eC]; rfl) rfl (by decide) ⟨by dsimp only [rm]; omega, by show 8 + (1 + 11) + 0 ≤ R.locals; omega⟩ (Nat.le_of_ble_eq_true rfl) (Nat.zero_le _) (Nat.zero_le _) ?_
          rintro v S1 ⟨rfl, rfl⟩
          have hd : fall (fs.drop i) = fbytes fs[i].2.1 fs[i].2.2.1 ++ fall (fs.drop (i + 1)) := by rw [List.drop_eq_getElem_cons hlt, fall, List.flatMap_cons]; rfl
          have hfl := fbytes_len fs[i].2.1 fs[i].2.2.1
          refine Ex.br rfl (fun c2 => ?_) (fun c2 => ?_)
          · rw [nI_leI (by omega) (by omega)] at c2
            refine Ex.p rfl ?_
            refine Ex.p rfl ?_
            refine Ex.cv (Mc := mSf_joinedSize) (Rc := rm 0 0 0) (As := []) (rest := [.int (nI lf)]) (Sr := [X, Y, [(f, .inr (2, [.ref fa, .int (nI fs.length)])), (fa, .inl (D.2.2.1 5, 8, .inr (.inr (.inr (.inr ff)))))]]) (ic := 3) (jc := 0) (ci := 6) [3] [0, 1, 2] (ct_Sf_joinedSize hC) rfl lk_2_38 lcSf_joinedSize rfl rfl rfl rfl rfl (by decide) rfl (by rw [eC]; rfl) rfl (by decide) ⟨by dsimp only [rm]; omega, by show 8 + (1 + 11) + 0 ≤ R.locals; omega⟩ (Nat.le_of_ble_eq_true rfl) (Nat.zero_le _) (Nat.zero_le _) ?_
            rintro v S1 ⟨rfl, rfl⟩
            refine Ex.p rfl ?_
            refine Ex.p rfl ?_
            refine Ex.p rfl ?_
            refine Ex.p rfl ?_
            rw [pk_sub (by omega), i_add1]
            refine Ex.sub (S' := [[(f, .inr (2, [.ref fa, .int (nI fs.length)])), (fa, .inl (D.2.2.1 5, 8, .inr (.inr (.inr (.inr ff)))))], X, C, Y]) [2, 0, 3, 1] rfl rfl ?_
            refine Ex.is [0, 1, 3, 4] rfl (S' := [[(f, .inr (2, [.ref fa, .int (nI fs.length)])), (fa, .inl (D.2.2.1 5, 8, .inr (.inr (.inr (.inr ff)))))], X ++ (C ++ Y)]) (by simp) ?_
            refine ih (i + 1) (by omega) (by omega) _ (by omega) ?_
            rw [hw, hd, bat, bat, List.getElem?_append_right (by omega), hfl]
          · rw [nI_leI (by omega) (by omega)] at c2
            refine Ex.p rfl ?_
            refine Ex.p rfl ?_
            refine Ex.cv (Mc := mSf_joined) (Rc := rm 1 0 0) (As := [.int (nI lf)]) (rest := []) (Sr := [X, Y, [(f, .inr (2, [.ref fa, .int (nI fs.length)])), (fa, .inl (D.2.2.1 5, 8, .inr (.inr (.inr (.inr ff)))))]]) (ic := 3) (jc := 0) (ci := 6) [3] [0, 1, 2] (ct_Sf_joined hC (by omega) (rm_ok _ _ _)) rfl lk_2_42 lcSf_joined rfl rfl rfl rfl rfl (by decide) rfl (by rw [eC]; rfl) rfl (by decide) ⟨by dsimp only [rm]; omega, by show 8 + (4 + 11) + 40 ≤ R.locals; omega⟩ (Nat.zero_le _) (Nat.zero_le _) (Nat.zero_le _) ?_
            rintro v S1 ⟨rfl, rfl⟩
            refine Ex.sub (S' := [[(f, .inr (2, [.ref fa, .int (nI fs.length)])), (fa, .inl (D.2.2.1 5, 8, .inr (.inr (.inr (.inr ff)))))], X, C, Y]) [2, 0, 3, 1] rfl rfl ?_
            refine Ex.iret (S' := [[(f, .inr (2, [.ref fa, .int (nI fs.length)])), (fa, .inl (D.2.2.1 5, 8, .inr (.inr (.inr (.inr ff)))))], X ++ (C ++ Y)]) rfl rfl (Nat.zero_le _) (Nat.zero_le _) (by simp) ⟨?_, rfl⟩
            rw [hw, hd, bat, List.getElem?_append_left (by omega), List.getD_eq_getElem?_getD]
            rw [List.getElem?_eq_getElem (by omega)]
            rfl
    refine Ex.p rfl ?_
    refine Ex.p rfl ?_
    refine Ex.p rfl ?_
    refine Ex.p rfl ?_
    rw [show nI j - Int32.ofInt 1 = nI (j - 1) from pk_sub (b := 1) (by omega)]
    refine Ex.p rfl ?_
    refine Ex.p rfl ?_
    refine loop (fs.length + 1) 0 (by omega) (by omega) (j - 1) (by omega) ?_
    obtain ⟨j', rfl⟩ : ∃ j', j = j' + 1 := ⟨j - 1, by omega⟩
    rfl
  · have hj0 : j = 0 := by
      have c0 : ¬ ¬ nI j = nI 0 := c0
      rw [nI_eq (by omega) (by omega)] at c0
      omega
    subst hj0
    repeat (first | refine Ex.p rfl ?_ | refine Ex.ldc rfl ?_ | refine Ex.ldc2 rfl ?_ | refine Ex.gf 0 0 rfl rfl rfl ?_)
    exact Ex.iret rfl rfl (Nat.zero_le _) (Nat.zero_le _) rfl ⟨rfl, rfl⟩
end FS2
end
section
/-! FileSet: takeFile -/
/-- a file read at p of bytes bs, with the roles rs there already: role, bytes, where the next begins -/
def tkF (bs rs : List Nat) (p : Nat) : Option (Nat × List Nat × Nat) :=
  if bs.length < p + 3 then none else
  if 300 < bs.getD (p + 1) 0 + 256 * bs.getD (p + 2) 0 ∨ bs.length < p + 3 + (bs.getD (p + 1) 0 + 256 * bs.getD (p + 2) 0) + 2 then none else
  if 8 ≤ bs.getD p 0 ∨ bs.getD p 0 ∈ rs ∨ 8 ≤ rs.length then none else
  if fsum ((bs.drop (p + 3)).take (bs.getD (p + 1) 0 + 256 * bs.getD (p + 2) 0)) = bs.getD (p + 3 + (bs.getD (p + 1) 0 + 256 * bs.getD (p + 2) 0)) 0 + 256 * bs.getD (p + 3 + (bs.getD (p + 1) 0 + 256 * bs.getD (p + 2) 0) + 1) 0 then some (bs.getD p 0, (bs.drop (p + 3)).take (bs.getD (p + 1) 0 + 256 * bs.getD (p + 2) 0), p + 3 + (bs.getD (p + 1) 0 + 256 * bs.getD (p + 2) 0) + 2) else none
theorem fwith_none {fs : List FV} {ro : Nat} : fwith fs ro = none ↔ ro ∉ fs.map (fun x => x.2.1) := by
  unfold fwith
  rw [List.find?_eq_none]
  constructor
  · intro h hm
    obtain ⟨x, hx, e⟩ := List.mem_map.mp hm
    exact h x hx (by simpa using e)
  · intro h x hx hp
    exact h (List.mem_map.mpr ⟨x, hx, by simpa using hp⟩)
theorem getD_lt {bs : List Nat} (hb : ∀ b ∈ bs, b < 256) (j : Nat) : bs.getD j 0 < 256 := by
  rw [List.getD_eq_getElem?_getD]
  cases h : bs[j]? with
  | none => decide
  | some x => exact hb x (List.mem_of_getElem? h)
section FT
variable {l : Launch} {D : xD} {R : Room}
/-- what takeFile leaves -/
def tkQ (D : xD) (f : Nat) (fs : List FV) (Cr : va_W) (o : Option (Nat × List Nat × Nat)) (v : Option Value) (S : List va_W) : Prop := match o with
  | some (ro, d, p') => v = some (.int (nI p')) ∧ ∃ q cap Cf' F', S = [Cf', F', Cr] ∧ IsFs D f (fs ++ [(q, ro, d, cap)]) Cf' F'
  | none => v = some (.int (-1)) ∧ ∃ Cx Fx, S = [Cx, Fx, Cr]
theorem ct_Fs_takeFile {f r L capr p : Nat} {fs : List FV} {bs : List Nat} {Cf F Cr : va_W} (h : IsFs D f fs Cf F) (hrow : IsRow D r L capr (bs.map nI) Cr) (hb : ∀ b ∈ bs, b < 256) (hp : p < 2 ^ 20) (hr : rmOk R 4 80 1200) :
    Ct l mFs_takeFile D R [.ref f, .ref r, .int (nI p)] [Cf, F, Cr] (tkQ D f fs Cr (tkF bs (fs.map (fun x => x.2.1)) p)) := by
  have h9 := h
  obtain ⟨fa, ff, rfl, hF, h1, h3⟩ := h
  obtain ⟨r1, r2, r3, r4⟩ := hr
  obtain ⟨arr, g, rfl, w1, w2, w3, w4, w5, w6⟩ := id hrow
  have hlen : (bs.map nI).length = bs.length := by simp
  have hbl : bs.length ≤ 5000 := by rw [hlen] at w2; omega
  refine Ct.of rfl (by decide) tkFs_takeFile (Nat.le_of_ble_eq_true rfl) (fun A => ?_)
  generalize ho : tkF bs (fs.map (fun x => x.2.1)) p = o
  unfold tkF at ho
  refine Ex.p rfl ?_
  refine Ex.p rfl ?_
  refine Ex.p rfl ?_
  rw [show nI p + Int32.ofInt 3 = nI (p + 3) from nI_add p 3]
  repeat (first | refine Ex.p rfl ?_ | refine Ex.ldc rfl ?_ | refine Ex.ldc2 rfl ?_ | refine Ex.gf 2 0 rfl rfl rfl ?_)
  refine Ex.br rfl (fun c1 => ?_) (fun c1 => ?_)
  rotate_left
  · rw [nI_leI (by omega) (by omega), hlen] at c1
    rw [if_pos (by omega)] at ho
    subst ho
    refine Ex.p rfl ?_
    exact Ex.iret rfl rfl (Nat.zero_le _) (Nat.zero_le _) rfl ⟨rfl, _, _, rfl⟩
  rw [nI_leI (by omega) (by omega), hlen] at c1
  rw [if_neg (by omega)] at ho
  have b0 := getD_lt hb p
  have b1 := getD_lt hb (p + 1)
  have b2 := getD_lt hb (p + 2)
  refine Ex.p rfl ?_
  refine Ex.p rfl ?_
  refine Ex.p rfl ?_
  refine Ex.p rfl ?_
  rw [i_add1]
  refine Ex.cs (Mc := mFs_pair) (Rc := rm 1 0 0) (As := [.ref r, .int (nI (p + 1))]) (rest := []) (Sr := [[(f, .inr (2, [.ref fa, .int (nI fs.length)])), (fa, .inl (D.2.2.1 5, 8, .inr (.inr (.inr (.inr ff)))))], F]) [2] [0, 1] (ct_Fs_pair hrow hb (by omega) (rm_ok _ _ _)) rfl lk_2_56 lcFs_pair rfl rfl rfl rfl rfl (by decide) ⟨by dsimp only [rm]; omega, by show 8 + (2 + 11) + 40 ≤ R.locals; omega⟩ (Nat.zero_le _) (Nat.zero_le _) (Nat.zero_le _) ?_
  rintro v S1 ⟨rfl, rfl⟩
  rw [show p + 1 + 1 = p + 2 from rfl]
  generalize hn : bs.getD (p + 1) 0 + 256 * bs.getD (p + 2) 0 = N at ho ⊢
  have hN : N < 65536 := by omega
  refine Ex.p rfl ?_
  refine Ex.p rfl ?_
  refine Ex.p rfl ?_
  refine Ex.p rfl ?_
  rw [nI_add]
  refine Ex.p rfl ?_
  refine Ex.p rfl ?_
  refine Ex.p rfl ?_
  refine Ex.br rfl (fun c2 => ?_) (fun c2 => ?_)
  · have c2 : nI 300 < nI N := c2
    rw [nI_ltI (by omega) (by omega)] at c2
    rw [if_pos (by omega)] at ho
    subst ho
    refine Ex.p rfl ?_
    exact Ex.iret rfl rfl (Nat.zero_le _) (Nat.zero_le _) rfl ⟨rfl, _, _, rfl⟩
  have c2 : ¬ nI 300 < nI N := c2
  rw [nI_ltI (by omega) (by omega)] at c2
  refine Ex.p rfl ?_
  refine Ex.p rfl ?_
  refine Ex.p rfl ?_
  rw [show nI (p + 3 + N) + Int32.ofInt 2 = nI (p + 3 + N + 2) from nI_add _ 2]
  repeat (first | refine Ex.p rfl ?_ | refine Ex.ldc rfl ?_ | refine Ex.ldc2 rfl ?_ | refine Ex.gf 2 0 rfl rfl rfl ?_)
  refine Ex.br rfl (fun c3 => ?_) (fun c3 => ?_)
  rotate_left
  · rw [nI_leI (by omega) (by omega), hlen] at c3
    rw [if_pos (by omega)] at ho
    subst ho
    refine Ex.p rfl ?_
    exact Ex.iret rfl rfl (Nat.zero_le _) (Nat.zero_le _) rfl ⟨rfl, _, _, rfl⟩
  rw [nI_leI (by omega) (by omega), hlen] at c3
  rw [if_neg (by omega)] at ho
  refine Ex.p rfl ?_
  refine Ex.p rfl ?_
  refine Ex.p rfl ?_
  refine Ex.p rfl ?_
  refine Ex.cv (Mc := mRo_get) (Rc := rm 0 0 0) (As := [.int (nI p)]) (rest := [.ref f, .ref f]) (Sr := [[(f, .inr (2, [.ref fa, .int (nI fs.length)])), (fa, .inl (D.2.2.1 5, 8, .inr (.inr (.inr (.inr ff)))))], F]) (ic := 2) (jc := 0) (ci := 5) [2] [0, 1] (ct_Ro_get hrow) rfl lk_2_46 lcRo_get rfl rfl rfl rfl rfl (by decide) rfl rfl rfl (by decide) ⟨by dsimp only [rm]; omega, by show 8 + (2 + 11) + 0 ≤ R.locals; omega⟩ (Nat.le_of_ble_eq_true rfl) (Nat.zero_le _) (Nat.zero_le _) ?_
  rintro v S1 ⟨rfl, rfl⟩
  rw [rget_nI (by omega) (by omega)]
  generalize hro : bs.getD p 0 = ro at ho b0 ⊢
  refine Ex.cv (Mc := mFs_add) (Rc := rm 3 3 14) (As := [.int (nI ro)]) (rest := [.ref f]) (Sr := [sRow D r arr capr g L (bs.map nI).length]) (ic := 0) (jc := 0) (ci := 2) [0, 1] [2] (ct_Fs_add h9 b0 (rm_ok _ _ _)) rfl lk_2_59 lcFs_add rfl rfl rfl rfl rfl (by decide) rfl rfl rfl (by decide) ⟨by dsimp only [rm]; omega, by show 8 + (2 + 11) + 120 ≤ R.locals; omega⟩ (Nat.le_of_ble_eq_true rfl) (by dsimp only [rm]; omega) (by dsimp only [rm]; omega) ?_
  rintro v S1 (⟨hbad, rfl, rfl⟩ | ⟨hro8, hw, hf8, rfl, q, Cf', F', rfl, h9'⟩)
  · rw [if_pos (by
      rcases hbad with z | z | z
      · exact Or.inl z
      · exact Or.inr (Or.inl (Decidable.byContradiction fun y => z (fwith_none.mpr y)))
      · exact Or.inr (Or.inr (by simpa using z)))] at ho
    subst ho
    refine Ex.cv (Mc := mFs_fileAt) (Rc := rm 0 0 0) (As := [.int (-1)]) (rest := []) (Sr := [sRow D r arr capr g L (bs.map nI).length, F]) (ic := 1) (jc := 0) (ci := 2) [1] [0, 2] (ct_Fs_fileAt h9) rfl lk_2_32 lcFs_fileAt rfl rfl rfl rfl rfl (by decide) rfl rfl rfl (by decide) ⟨by dsimp only [rm]; omega, by show 8 + (2 + 11) + 0 ≤ R.locals; omega⟩ (Nat.zero_le _) (by dsimp only [rm]; omega) (by dsimp only [rm]; omega) ?_
    rintro v S1 ⟨rfl, rfl⟩
    rw [ixo_none (Or.inl (by decide))]
    refine Ex.p rfl ?_
    refine Ex.p rfl ?_
    refine Ex.nnN rfl ?_
    refine Ex.p rfl ?_
    refine Ex.sub (S' := [[(f, .inr (2, [.ref fa, .int (nI fs.length)])), (fa, .inl (D.2.2.1 5, 8, .inr (.inr (.inr (.inr ff)))))], F, sRow D r arr capr g L (bs.map nI).length]) [2, 1, 0] rfl rfl ?_
    exact Ex.iret rfl rfl (by dsimp only [rm]; omega) (by dsimp only [rm]; omega) rfl ⟨rfl, _, _, rfl⟩
  · rw [if_neg (by
      rintro (z | z | z)
      · omega
      · exact fwith_none.mp hw z
      · simp at z; omega)] at ho
    have h10 := h9'
    obtain ⟨fa', ff', rfl, hF', h1', h3'⟩ := h9'
    refine Ex.cv (Mc := mFs_fileAt) (Rc := rm 0 0 0) (As := [.int (nI fs.length)]) (rest := []) (Sr := [sRow D r arr capr g L (bs.map nI).length, F']) (ic := 1) (jc := 0) (ci := 2) [1] [0, 2] (ct_Fs_fileAt h10) rfl lk_2_32 lcFs_fileAt rfl rfl rfl rfl rfl (by decide) rfl rfl rfl (by decide) ⟨by dsimp only [rm]; omega, by show 8 + (2 + 11) + 0 ≤ R.locals; omega⟩ (Nat.zero_le _) (by dsimp only [rm]; omega) (by dsimp only [rm]; omega) ?_
    rintro v S1 ⟨rfl, rfl⟩
    have hat : (fs ++ [((q, ro, [], 8) : FV)])[fs.length]? = some (q, ro, [], 8) := by simp
    rw [ixo, nI_toInt (by omega), if_pos (by omega), Int.toNat_natCast, hat]
    refine Ex.p rfl ?_
    refine Ex.p rfl ?_
    refine Ex.nnR (t := 72) rfl rfl ?_
    obtain ⟨X, C, Y, rfl, hC, hback⟩ := hF'.at hat
    have hset : ∀ t' : FV, (fs ++ [((q, ro, [], 8) : FV)]).set fs.length t' = fs ++ [t'] := fun t' => by simp
    generalize hdd : (bs.drop (p + 3)).take N = dd at ho
    have hdl : dd.length = N := by rw [← hdd]; simp; omega
    have hde : ∀ k, k < N → dd[k]? = some (bs.getD (p + 3 + k) 0) := by
      intro k hk
      rw [← hdd, List.getElem?_take_of_lt hk, List.getElem?_drop, List.getD_eq_getElem?_getD, List.getElem?_eq_getElem (show p + 3 + k < bs.length by omega)]
      rfl
    have loop : ∀ (m k : Nat), N - k < m → k ≤ N → ∀ (cap : Nat) (C' : va_W), IsF D (q, ro, dd.take k, cap) C' → 8 ≤ cap → capN cap k (N - k) ≤ 600 →
        Ex l mFs_takeFile D R A (xQ D A (tkQ D f fs (sRow D r arr capr g L (bs.map nI).length) o)) R.cells R.slots 75 [(7, .int (nI (p + 3 + k))), (6, .ref q), (5, .int (nI (p + 3 + N))), (4, .int (nI N)), (3, .int (nI (p + 3))), (0, .ref f), (1, .ref r), (2, .int (nI p))] [] [X, C', Y, [(f, .inr (2, [.ref fa', .int (nI (fs ++ [((q, ro, [], 8) : FV)]).length)])), (fa', .inl (D.2.2.1 5, 8, .inr (.inr (.inr (.inr ff')))))], sRow D r arr capr g L (bs.map nI).length] (3 + (cap - 8) / 8) (14 + 2 * (cap - 8)) := by
      intro m
      induction m with
      | zero => intro k h; omega
      | succ m ih =>
        intro k hm hk cap C' hC' hcap hcN
        have hge := capN_ge (N - k) cap k
        have htl : (dd.take k).length = k := by simp; omega
        obtain ⟨rb, Cb, rfl, hrowC, hro9, hbC⟩ := id hC'
        refine Ex.p rfl ?_
        refine Ex.p rfl ?_
        refine Ex.br rfl (fun c4 => ?_) (fun c4 => ?_)
        · rw [nI_leI (by omega) (by omega)] at c4
          have hkN : k = N := by omega
          have htk : dd.take k = dd := by rw [hkN, ← hdl, List.take_length]
          refine Ex.p rfl ?_
          refine Ex.gf 1 0 rfl rfl rfl ?_
          refine Ex.p rfl ?_
          refine Ex.p rfl ?_
          refine Ex.cs (Mc := mFs_pair) (Rc := rm 1 0 0) (As := [.ref r, .int (nI (p + 3 + N))]) (rest := [.int (nI (fsum (dd.take k)))]) (Sr := [X, (q, .inr (6, [.int (nI ro), .ref rb, .int (nI (fsum (dd.take k)))])) :: Cb, Y, [(f, .inr (2, [.ref fa', .int (nI (fs ++ [((q, ro, [], 8) : FV)]).length)])), (fa', .inl (D.2.2.1 5, 8, .inr (.inr (.inr (.inr ff')))))]]) [4] [0, 1, 2, 3] (ct_Fs_pair hrow hb (by omega) (rm_ok _ _ _)) rfl lk_2_56 lcFs_pair rfl rfl rfl rfl rfl (by decide) ⟨by dsimp only [rm]; omega, by show 8 + (2 + 11) + 40 ≤ R.locals; omega⟩ (Nat.le_of_ble_eq_true rfl) (by dsimp only [rm]; omega) (by dsimp only [rm]; omega) ?_
          rintro v S1 ⟨rfl, rfl⟩
          have b3 := getD_lt hb (p + 3 + N)
          have b4 := getD_lt hb (p + 3 + N + 1)
          have hfs := fsum_lt (dd.take k)
          refine Ex.br rfl (fun c5 => ?_) (fun c5 => ?_)
          · have c5 : ¬ nI (fsum (dd.take k)) = nI (bs.getD (p + 3 + N) 0 + 256 * bs.getD (p + 3 + N + 1) 0) := c5
            rw [nI_eq (by omega) (by omega), htk] at c5
            rw [if_neg c5] at ho
            subst ho
            refine Ex.p rfl ?_
            refine Ex.sub (S' := [X, Y, sRow D r arr capr g L (bs.map nI).length]) [0, 2, 4] rfl rfl ?_
            exact Ex.iret (S' := [X, Y, sRow D r arr capr g L (bs.map nI).length]) rfl rfl (by dsimp only [rm]; omega) (by dsimp only [rm]; omega) rfl ⟨rfl, _, _, rfl⟩
          · have c5 : ¬ ¬ nI (fsum (dd.take k)) = nI (bs.getD (p + 3 + N) 0 + 256 * bs.getD (p + 3 + N + 1) 0) := c5
            rw [nI_eq (by omega) (by omega), htk] at c5
            rw [if_pos (by omega)] at ho
            subst ho
            refine Ex.p rfl ?_
            refine Ex.p rfl ?_
            refine Ex.p rfl ?_
            rw [show nI (p + 3 + N) + Int32.ofInt 2 = nI (p + 3 + N + 2) from nI_add _ 2]
            refine Ex.p rfl ?_
            refine Ex.sub (S' := [[(f, .inr (2, [.ref fa', .int (nI (fs ++ [((q, ro, [], 8) : FV)]).length)])), (fa', .inl (D.2.2.1 5, 8, .inr (.inr (.inr (.inr ff')))))], X, (q, .inr (6, [.int (nI ro), .ref rb, .int (nI (fsum (dd.take k)))])) :: Cb, Y, sRow D r arr capr g L (bs.map nI).length]) [3, 0, 1, 2, 4] rfl rfl ?_
            refine Ex.iret (S' := [[(f, .inr (2, [.ref fa', .int (nI (fs ++ [((q, ro, [], 8) : FV)]).length)])), (fa', .inl (D.2.2.1 5, 8, .inr (.inr (.inr (.inr ff')))))], X ++ (((q, .inr (6, [.int (nI ro), .ref rb, .int (nI (fsum (dd.take k)))])) :: Cb) ++ Y), sRow D r arr capr g L (bs.map nI).length]) rfl rfl (by dsimp only [rm]; omega) (by dsimp only [rm]; omega) (by simp) ⟨rfl, q, cap, _, _, rfl, fa', ff', by simp, ?_, ?_, by simp; omega⟩
            · have hb9 := hback _ _ hC'
              rw [hset, htk] at hb9
              rw [htk]
              exact hb9
            · intro j u hj
              rcases Nat.lt_or_ge j fs.length with z | z
              · rw [List.getElem?_append_left z] at hj
                exact h1' j u (by rw [List.getElem?_append_left z]; exact hj)
              · rw [List.getElem?_append_right z] at hj
                cases hk9 : j - fs.length with
                | zero =>
                  rw [hk9] at hj
                  cases hj
                  exact h1' j (q, ro, [], 8) (by rw [show j = fs.length by omega]; exact hat)
                | succ k9 =>
                  rw [hk9] at hj
                  cases hj
        · rw [nI_leI (by omega) (by omega)] at c4
          have hkN : k < N := by omega
          rw [show N - k = (N - (k + 1)) + 1 by omega] at hcN
          have hcN : capN (rcap cap k) (k + 1) (N - (k + 1)) ≤ 600 := hcN
          have hge2 := capN_ge (N - (k + 1)) (rcap cap k) (k + 1)
          have hge3 := rcap_ge cap k
          have b5 := getD_lt hb (p + 3 + k)
          refine Ex.p rfl ?_
          refine Ex.p rfl ?_
          refine Ex.p rfl ?_
          refine Ex.cv (Mc := mRo_get) (Rc := rm 0 0 0) (As := [.int (nI (p + 3 + k))]) (rest := [.ref q]) (Sr := [X, (q, .inr (6, [.int (nI ro), .ref rb, .int (nI (fsum (dd.take k)))])) :: Cb, Y, [(f, .inr (2, [.ref fa', .int (nI (fs ++ [((q, ro, [], 8) : FV)]).length)])), (fa', .inl (D.2.2.1 5, 8, .inr (.inr (.inr (.inr ff')))))]]) (ic := 4) (jc := 0) (ci := 5) [4] [0, 1, 2, 3] (ct_Ro_get hrow) rfl lk_2_46 lcRo_get rfl rfl rfl rfl rfl (by decide) rfl rfl rfl (by decide) ⟨by dsimp only [rm]; omega, by show 8 + (2 + 11) + 0 ≤ R.locals; omega⟩ (Nat.le_of_ble_eq_true rfl) (by dsimp only [rm]; omega) (by dsimp only [rm]; omega) ?_
          rintro v S1 ⟨rfl, rfl⟩
          rw [rget_nI (by omega) (by omega)]
          have hC9 : IsFile D q ro (dd.take k) cap ((q, .inr (6, [.int (nI ro), .ref rb, .int (nI (fsum (dd.take k)))])) :: Cb) := hC'
          refine Ex.cv (Mc := mSf_push) (Rc := rm 3 ((rcap cap (dd.take k).length - cap) / 8) (2 * (rcap cap (dd.take k).length - cap))) (As := [.int (nI (bs.getD (p + 3 + k) 0))]) (rest := []) (Sr := [X, Y, [(f, .inr (2, [.ref fa', .int (nI (fs ++ [((q, ro, [], 8) : FV)]).length)])), (fa', .inl (D.2.2.1 5, 8, .inr (.inr (.inr (.inr ff')))))], sRow D r arr capr g L (bs.map nI).length]) (ic := 1) (jc := 0) (ci := 6) [1] [0, 2, 3, 4] (ct_Sf_push hC9 b5 (rm_ok _ _ _)) rfl lk_2_62 lcSf_push rfl rfl rfl rfl rfl (by decide) rfl rfl rfl (by decide) ⟨by dsimp only [rm]; omega, by show 8 + (2 + 11) + 120 ≤ R.locals; omega⟩ (Nat.zero_le _) (by rw [htl]; dsimp only [rm]; omega) (by rw [htl]; dsimp only [rm]; omega) ?_
          rintro v S1 (⟨hbad, -, -⟩ | ⟨-, rfl, C2, rfl, hC2⟩)
          · rw [htl] at hbad; omega
          rw [htl] at hC2 ⊢
          refine Ex.p rfl ?_
          refine Ex.p rfl ?_
          refine Ex.p rfl ?_
          rw [i_add1]
          refine Ex.sub (S' := [X, C2, Y, [(f, .inr (2, [.ref fa', .int (nI (fs ++ [((q, ro, [], 8) : FV)]).length)])), (fa', .inl (D.2.2.1 5, 8, .inr (.inr (.inr (.inr ff')))))], sRow D r arr capr g L (bs.map nI).length]) [0, 4, 1, 2, 3] rfl rfl ?_
          refine Ex.more (k' := 3 + (rcap cap k - 8) / 8) (n' := 14 + 2 * (rcap cap k - 8)) (by dsimp only [rm]; omega) (by dsimp only [rm]; omega) ?_
          refine ih (k + 1) (by omega) (by omega) _ C2 ?_ (by omega) hcN
          rw [List.take_succ, hde k hkN]
          exact hC2
    refine Ex.p rfl ?_
    refine Ex.p rfl ?_
    refine Ex.sub (S' := [X ++ (C ++ Y), [(f, .inr (2, [.ref fa', .int (nI (fs ++ [((q, ro, [], 8) : FV)]).length)])), (fa', .inl (D.2.2.1 5, 8, .inr (.inr (.inr (.inr ff')))))], sRow D r arr capr g L (bs.map nI).length]) [1, 2, 0] rfl rfl ?_
    refine Ex.more (k' := 3 + (8 - 8) / 8) (n' := 14 + 2 * (8 - 8)) (by dsimp only [rm]; omega) (by dsimp only [rm]; omega) ?_
    refine Ex.is [0, 1, 2, 3, 4, 5, 6, 7] rfl (S' := [X, C, Y, [(f, .inr (2, [.ref fa', .int (nI (fs ++ [((q, ro, [], 8) : FV)]).length)])), (fa', .inl (D.2.2.1 5, 8, .inr (.inr (.inr (.inr ff')))))], sRow D r arr capr g L (bs.map nI).length]) (by simp) ?_
    exact loop (N + 1) 0 (by omega) (by omega) 8 C hC (by omega) (capN_le N 8 0 600 (by omega) (by omega))
end FT
end
section
/-! FileSet: take -/
def tkAll (bs : List Nat) : Nat → List Nat → Nat → Option (List (Nat × List Nat) × Nat)
  | 0, _, p => some ([], p)
  | k + 1, rs, p => match tkF bs rs p with
    | none => none
    | some x => match tkAll bs k (rs ++ [x.1]) x.2.2 with
      | none => none
      | some y => some ((x.1, x.2.1) :: y.1, y.2)
/-- the files of an archive -/
def tkArch (bs : List Nat) : Option (List (Nat × List Nat)) :=
  if bs.length = 0 ∨ 8 < bs.getD 0 0 then none else
  match tkAll bs (bs.getD 0 0) [] 1 with
  | none => none
  | some y => if y.2 = bs.length then some y.1 else none
theorem tkF_le {bs rs : List Nat} {p : Nat} {x : Nat × List Nat × Nat} (h : tkF bs rs p = some x) : x.2.2 ≤ bs.length := by
  unfold tkF at h
  split at h
  · cases h
  · split at h
    · cases h
    · split at h
      · cases h
      · split at h
        · cases h
          show p + 3 + (bs.getD (p + 1) 0 + 256 * bs.getD (p + 2) 0) + 2 ≤ bs.length
          omega
        · cases h
abbrev frb (x : FV) : Nat × List Nat := (x.2.1, x.2.2.1)
/-- what take leaves -/
def taQ (D : xD) (f : Nat) (Cr : va_W) (o : Option (List (Nat × List Nat))) (v : Option Value) (S : List va_W) : Prop := match o with
  | some fl => v = some (.int 1) ∧ ∃ fs Cf' F', S = [Cf', F', Cr] ∧ IsFs D f fs Cf' F' ∧ fs.map frb = fl
  | none => v = some (.int 0) ∧ ∃ Cx Fx, S = [Cx, Fx, Cr]
section FA
variable {l : Launch} {D : xD} {R : Room}
theorem ct_Fs_take {f r L capr : Nat} {bs : List Nat} {Cf F Cr : va_W} (h : IsFs D f [] Cf F) (hrow : IsRow D r L capr (bs.map nI) Cr) (hb : ∀ b ∈ bs, b < 256) (hr : rmOk R 5 640 9600) :
    Ct l mFs_take D R [.ref f, .ref r] [Cf, F, Cr] (taQ D f Cr (tkArch bs)) := by
  obtain ⟨r1, r2, r3, r4⟩ := hr
  obtain ⟨arr, g, rfl, w1, w2, w3, w4, w5, w6⟩ := id hrow
  have hlen : (bs.map nI).length = bs.length := by simp
  have hbl : bs.length ≤ 5000 := by rw [hlen] at w2; omega
  have hm := getD_lt hb 0
  refine Ct.of rfl (by decide) tkFs_take (Nat.le_of_ble_eq_true rfl) (fun A => ?_)
  generalize ho : tkArch bs = o
  unfold tkArch at ho
  refine Ex.p rfl ?_
  refine Ex.p rfl ?_
  refine Ex.cv (Mc := mRo_get) (Rc := rm 0 0 0) (As := [.int (nI 0)]) (rest := []) (Sr := [Cf, F]) (ic := 2) (jc := 0) (ci := 5) [2] [0, 1] (ct_Ro_get hrow) rfl lk_2_46 lcRo_get rfl rfl rfl rfl rfl (by decide) rfl rfl rfl (by decide) ⟨by dsimp only [rm]; omega, by show 8 + (2 + 11) + 0 ≤ R.locals; omega⟩ (Nat.zero_le _) (Nat.zero_le _) (Nat.zero_le _) ?_
  rintro v S1 ⟨rfl, rfl⟩
  by_cases h0 : bs.length = 0
  · rw [if_pos (Or.inl h0)] at ho
    subst ho
    have hnil : bs = [] := List.length_eq_zero_iff.mp h0
    subst hnil
    rw [show rget ([].map nI) (nI 0) = -1 from rfl]
    refine Ex.p rfl ?_
    refine Ex.p rfl ?_
    refine Ex.br rfl (fun _ => ?_) (fun c => absurd (by decide) c)
    refine Ex.p rfl ?_
    exact Ex.zret rfl rfl (Or.inl rfl) (Nat.zero_le _) (Nat.zero_le _) rfl ⟨rfl, _, _, rfl⟩
  rw [rget_nI (by omega) (by omega)]
  generalize hmm : bs.getD 0 0 = many at ho hm ⊢
  refine Ex.p rfl ?_
  refine Ex.p rfl ?_
  refine Ex.br rfl (fun c => absurd c (nI_pos (by omega))) (fun _ => ?_)
  refine Ex.p rfl ?_
  refine Ex.p rfl ?_
  refine Ex.br rfl (fun c1 => ?_) (fun c1 => ?_)
  rotate_left
  · have c1 : ¬ nI many ≤ nI 8 := c1
    rw [nI_leI (by omega) (by omega)] at c1
    rw [if_pos (Or.inr (by omega))] at ho
    subst ho
    refine Ex.p rfl ?_
    exact Ex.zret rfl rfl (Or.inl rfl) (Nat.zero_le _) (Nat.zero_le _) rfl ⟨rfl, _, _, rfl⟩
  have c1 : nI many ≤ nI 8 := c1
  rw [nI_leI (by omega) (by omega)] at c1
  rw [if_neg (by omega)] at ho
  have loop : ∀ (m i : Nat), many - i < m → i ≤ many → ∀ (fs : List FV) (p : Nat) (Cf' F' : va_W), IsFs D f fs Cf' F' → p ≤ 5000 →
      tkAll bs many [] 1 = (match tkAll bs (many - i) (fs.map (fun x => x.2.1)) p with
        | none => none
        | some y => some (fs.map frb ++ y.1, y.2)) →
      Ex l mFs_take D R A (xQ D A (taQ D f (sRow D r arr capr g L (bs.map nI).length) o)) R.cells R.slots 23 [(4, .int (nI i)), (3, .int (nI p)), (2, .int (nI many)), (0, .ref f), (1, .ref r)] [] [Cf', F', sRow D r arr capr g L (bs.map nI).length] (80 * i) (1200 * i) := by
    intro m
    induction m with
    | zero => intro i h; omega
    | succ m ih =>
      intro i him hi fs p Cf' F' hfs hp hall
      refine Ex.p rfl ?_
      refine Ex.p rfl ?_
      refine Ex.br rfl (fun c2 => ?_) (fun c2 => ?_)
      · rw [nI_leI (by omega) (by omega)] at c2
        rw [show many - i = 0 by omega] at hall
        have hall : tkAll bs many [] 1 = some (fs.map frb ++ [], p) := hall
        rw [hall, List.append_nil] at ho
        have ho : (if p = bs.length then some (fs.map frb) else none) = o := ho
        repeat (first | refine Ex.p rfl ?_ | refine Ex.ldc rfl ?_ | refine Ex.ldc2 rfl ?_ | refine Ex.gf 2 0 rfl rfl rfl ?_)
        refine Ex.br rfl (fun c3 => ?_) (fun c3 => ?_)
        · have c3 : ¬ nI p = nI (bs.map nI).length := c3
          rw [nI_eq (by omega) (by omega), hlen] at c3
          rw [if_neg c3] at ho
          subst ho
          refine Ex.p rfl ?_
          exact Ex.zret rfl rfl (Or.inl rfl) (by omega) (by omega) rfl ⟨rfl, _, _, rfl⟩
        · have c3 : ¬ ¬ nI p = nI (bs.map nI).length := c3
          rw [nI_eq (by omega) (by omega), hlen] at c3
          rw [if_pos (by omega)] at ho
          subst ho
          refine Ex.p rfl ?_
          refine Ex.p rfl ?_
          exact Ex.zret rfl rfl (Or.inr rfl) (by omega) (by omega) rfl ⟨rfl, fs, _, _, rfl, hfs, rfl⟩
      · rw [nI_leI (by omega) (by omega)] at c2
        rw [show many - i = (many - (i + 1)) + 1 by omega] at hall
        obtain ⟨fa, ff, rfl, -⟩ := id hfs
        refine Ex.p rfl ?_
        refine Ex.p rfl ?_
        refine Ex.p rfl ?_
        refine Ex.cv (Mc := mFs_takeFile) (Rc := rm 4 80 1200) (As := [.ref r, .int (nI p)]) (rest := []) (Sr := []) (ic := 0) (jc := 0) (ci := 2) [0, 1, 2] [] (ct_Fs_takeFile hfs hrow hb (by omega) (rm_ok _ _ _)) rfl lk_2_51 lcFs_takeFile rfl rfl rfl rfl rfl (by decide) rfl rfl rfl (by decide) ⟨by dsimp only [rm]; omega, by show 8 + (8 + 11) + 160 ≤ R.locals; omega⟩ (Nat.zero_le _) (by dsimp only [rm]; omega) (by dsimp only [rm]; omega) ?_
        intro v S1 hq
        cases ht : tkF bs (fs.map (fun x => x.2.1)) p with
        | none =>
          rw [ht] at hq
          obtain ⟨rfl, Cx, Fx, rfl⟩ := hq
          have hall : tkAll bs many [] 1 = none := by
            rw [hall]
            simp only [tkAll, ht]
          rw [hall] at ho
          have ho : none = o := ho
          subst ho
          refine Ex.p rfl ?_
          refine Ex.p rfl ?_
          refine Ex.p rfl ?_
          refine Ex.br rfl (fun c => absurd rfl c) (fun _ => ?_)
          refine Ex.p rfl ?_
          exact Ex.zret rfl rfl (Or.inl rfl) (by dsimp only [rm]; omega) (by dsimp only [rm]; omega) rfl ⟨rfl, _, _, rfl⟩
        | some x =>
          obtain ⟨ro, d, p'⟩ := x
          have hle : p' ≤ bs.length := tkF_le ht
          rw [ht] at hq
          obtain ⟨rfl, q, cap, Cf2, F2, rfl, hfs2⟩ := hq
          refine Ex.p rfl ?_
          refine Ex.p rfl ?_
          refine Ex.p rfl ?_
          refine Ex.br rfl (fun _ => ?_) (fun c => absurd (fun e => by
            have e : nI p' = -1 := e
            have := congrArg Int32.toInt e
            rw [nI_toInt (by omega)] at this
            exact absurd this (by rw [show (-1 : Int32).toInt = -1 from rfl]; omega)) c)
          refine Ex.p rfl ?_
          refine Ex.p rfl ?_
          rw [i_add1]
          refine Ex.more (k' := 80 * (i + 1)) (n' := 1200 * (i + 1)) (by dsimp only [rm]; omega) (by dsimp only [rm]; omega) ?_
          refine ih (i + 1) (by omega) (by omega) _ _ _ _ hfs2 (by omega) ?_
          rw [hall]
          simp only [tkAll, ht, List.map_append, List.map_cons, List.map_nil]
          cases tkAll bs (many - (i + 1)) (fs.map (fun x => x.2.1) ++ [ro]) p' with
          | none => rfl
          | some y => simp
  refine Ex.p rfl ?_
  refine Ex.p rfl ?_
  refine Ex.p rfl ?_
  refine Ex.p rfl ?_
  refine Ex.more (k' := 80 * 0) (n' := 1200 * 0) (Nat.zero_le _) (Nat.zero_le _) ?_
  refine loop (many + 1) 0 (by omega) (by omega) [] 1 Cf F h (by omega) ?_
  simp only [List.map_nil, Nat.sub_zero]
  cases tkAll bs many [] 1 with
  | none => rfl
  | some y => rfl
end FA
end
section
/-! Planner: its cells, the constructor, gather -/
abbrev ogv : HV := (-1, 0, 0, 0, 0, 0, 0)
abbrev sPl (D : xD) (a og mi dn wy rs : Nat) (fm : Nat → Option Nat) (fd fw fr : Nat → Int32) (cnt lst : Int32) : va_W :=
  [(a, .inr (4, [.ref og, .ref mi, .ref dn, .ref wy, .ref rs, .int cnt, .int lst])), cHit og ogv, (mi, .inl (D.2.2.1 4, 60, .inr (.inr (.inr (.inr fm))))), (dn, .inl (D.2.2.1 1, 60, .inl fd)), (wy, .inl (D.2.2.1 0, 72, .inl fw)), (rs, .inl (D.2.2.1 0, 2048, .inl fr))]
/-- the planner's cells -/
def IsPl (D : xD) (a : Nat) (fm : Nat → Option Nat) (fd fw fr : Nat → Int32) (cnt lst : Int32) (C : va_W) : Prop := ∃ og mi dn wy rs, C = sPl D a og mi dn wy rs fm fd fw fr cnt lst
section PL
variable {l : Launch} {D : xD} {R : Room}
theorem ct_Pl_init {a : Nat} (hr : rmOk R 2 5 2247) : Ct l mPl_init D R [.ref a] [[(a, .inr (4, gdf 4))]] (fun v S => v = none ∧ ∃ C, S = [C] ∧ IsPl D a (fun _ => none) (fun _ => 0) (fun _ => 0) (fun _ => 0) 0 0 C) := by
  obtain ⟨r1, r2, r3, r4⟩ := hr
  refine Ct.of rfl (by decide) tkPl_init (Nat.le_of_ble_eq_true rfl) (fun A => ?_)
  refine Ex.p rfl ?_
  refine Ex.oi rfl lk_4_3 (by omega) (by simp; omega) ?_
  refine Ex.p rfl ?_
  refine Ex.new (ci := 3) (N := 7) rfl rfl (by omega) (by omega) (fun q => ?_)
  refine Ex.p rfl ?_
  refine Ex.p rfl ?_
  refine Ex.p rfl ?_
  refine Ex.p rfl ?_
  refine Ex.p rfl ?_
  refine Ex.p rfl ?_
  refine Ex.p rfl ?_
  refine Ex.p rfl ?_
  refine Ex.ci (Mc := mHi_init) (Rc := rm 1 0 0) (As := hvs ogv) (rest := [.ref q, .ref a]) (Sr := [[(a, .inr (4, gdf 4))]]) [1] [0] (ct_Hi_init (h := ogv) (rm_ok _ _ _)) rfl lk_4_11 lcHi_init rfl rfl rfl rfl rfl (by decide) ⟨r1, by show 8 + (8 + 11) + 40 ≤ R.locals; omega⟩ (Nat.le_of_ble_eq_true rfl) (by dsimp only [rm]; omega) (by dsimp only [rm]; omega) ?_
  rintro v S1 ⟨rfl, rfl⟩
  refine Ex.pfF 0 0 rfl rfl rfl rfl rfl rfl rfl rfl ?_
  refine Ex.p rfl ?_
  refine Ex.p rfl ?_
  refine Ex.newa (N := 60) (ci := 3) (t0 := 4) (cn := "DrillArchive$Hit") rfl rfl (by decide) (by decide) rfl rfl (by decide) (by dsimp only [rm]; omega) (by dsimp only [rm]; omega) (fun q2 => ?_)
  refine Ex.pfF 0 0 rfl rfl rfl rfl rfl rfl rfl rfl ?_
  refine Ex.p rfl ?_
  refine Ex.p rfl ?_
  refine Ex.newz (N := 60) rfl rfl (by decide) (by dsimp only [rm]; omega) (by dsimp only [rm]; omega) (fun q3 => ?_)
  refine Ex.pfF 0 0 rfl rfl rfl rfl rfl rfl rfl rfl ?_
  refine Ex.p rfl ?_
  refine Ex.p rfl ?_
  refine Ex.newi (N := 72) rfl rfl (by decide) (by dsimp only [rm]; omega) (by dsimp only [rm]; omega) (fun q4 => ?_)
  refine Ex.pfF 0 0 rfl rfl rfl rfl rfl rfl rfl rfl ?_
  refine Ex.p rfl ?_
  refine Ex.p rfl ?_
  refine Ex.newi (N := 2048) rfl rfl (by decide) (by dsimp only [rm]; omega) (by dsimp only [rm]; omega) (fun q5 => ?_)
  refine Ex.pfF 0 0 rfl rfl rfl rfl rfl rfl rfl rfl ?_
  exact Ex.vret (S' := [sPl D a q q2 q3 q4 q5 (fun _ => none) (fun _ => 0) (fun _ => 0) (fun _ => 0) 0 0]) rfl rfl (by dsimp only [rm]; omega) (by dsimp only [rm]; omega) rfl ⟨rfl, _, rfl, q, q2, q3, q4, q5, rfl⟩
theorem sHs_at {hs : List (Nat × HV)} {i : Nat} {h : Nat × HV} (hi : hs[i]? = some h) : (sHs hs)[i]? = some (cHit h.1 h.2) := by
  unfold sHs
  rw [List.getElem?_map, hi]
  rfl
/-- the i-th of a tool's hits -/
theorem ct_Pl_gather {a d ch co : Nat} {fm : Nat → Option Nat} {fd fw fr : Nat → Int32} {cnt lst dm : Int32} {pl pn : Bool} {os : List Int32} {len : Int64} {ts : List TV} {hs : List (Nat × HV)} {ns : List Nat} {t : Nat} {Cp Cd T Hs C : va_W} (hp : IsPl D a fm fd fw fr cnt lst Cp) (hd : IsDr D d ts hs Cd T Hs) (ht : IsTool D t dm pl (ns.map nI) os len pn ch co C) (hns : ∀ n ∈ ns, n < hs.length) (hn60 : ns.length ≤ 60) (hr : rmOk R 1 0 0) :
    Ct l mPl_gather D R [.ref a, .ref d, .ref t] [Cp, Cd, C, Hs] (fun v S => v = none ∧ ∃ Cp' fm' fd', S = [Cp', Cd, C, Hs] ∧ IsPl D a fm' fd' fw fr (nI ns.length) lst Cp' ∧ (∀ j n, ns[j]? = some n → fm' j = (hs[n]?).map (fun h => h.1)) ∧ ∀ j, j < ns.length → fd' j = 0) := by
  have hd9 := hd
  obtain ⟨og, mi, dn, wy, rs, rfl⟩ := hp
  obtain ⟨ta, ha, ft, fh, rfl, hT, rfl, h1, h2, h3, h4⟩ := hd
  obtain ⟨rh, ro, Ch, Co, rfl, hrh, hro⟩ := ht
  obtain ⟨arr, f, rfl, x1, x2, x3, x4, x5, x6⟩ := id hrh
  obtain ⟨r1, r2, r3, r4⟩ := hr
  have hlen : (ns.map nI).length = ns.length := by simp
  have hhl : hs.length ≤ 60 := h4
  refine Ct.of rfl (by decide) tkPl_gather (Nat.le_of_ble_eq_true rfl) (fun A => ?_)
  refine Ex.p rfl ?_
  refine Ex.p rfl ?_
  refine Ex.pf 0 0 rfl rfl rfl rfl rfl rfl ?_
  have loop : ∀ (m i : Nat), ns.length - i < m → i ≤ ns.length → ∀ (fm' : Nat → Option Nat) (fd' : Nat → Int32), (∀ j n, j < i → ns[j]? = some n → fm' j = (hs[n]?).map (fun h => h.1)) → (∀ j, j < i → fd' j = 0) →
      ∀ lv9, lv9 = [(3, Value.int (nI i)), (0, .ref a), (1, .ref d), (2, .ref t)] ∨ (∃ w, lv9 = [(3, Value.int (nI i)), (4, .ref w), (0, .ref a), (1, .ref d), (2, .ref t)]) →
      Ex l mPl_gather D R A (xQ D A (fun v S => v = none ∧ ∃ Cp' fm' fd', S = [Cp', [(d, .inr (1, [.ref ta, .ref ha, .int (nI ts.length), .int (nI hs.length)])), (ta, .inl (D.2.2.1 3, 10, .inr (.inr (.inr (.inr ft))))), (ha, .inl (D.2.2.1 4, 60, .inr (.inr (.inr (.inr fh)))))], (t, .inr (9, [.int dm, .int (b32 pl), .ref rh, .ref ro, .long len, .int (b32 pn)])) :: (sRow D rh arr ch f 60 (ns.map nI).length ++ Co), sHs hs] ∧ IsPl D a fm' fd' fw fr (nI ns.length) lst Cp' ∧ (∀ j n, ns[j]? = some n → fm' j = (hs[n]?).map (fun h => h.1)) ∧ ∀ j, j < ns.length → fd' j = 0)) R.cells R.slots 7 lv9 [] [sPl D a og mi dn wy rs fm' fd' fw fr (nI i) lst, [(d, .inr (1, [.ref ta, .ref ha, .int (nI ts.length), .int (nI hs.length)])), (ta, .inl (D.2.2.1 3, 10, .inr (.inr (.inr (.inr ft))))), (ha, .inl (D.2.2.1 4, 60, .inr (.inr (.inr (.inr fh)))))], (t, .inr (9, [.int dm, .int (b32 pl), .ref rh, .ref ro, .long len, .int (b32 pn)])) :: (sRow D rh arr ch f 60 (ns.map nI).length ++ Co), sHs hs] 0 0 := by
    intro m
    induction m with
    | zero => intro i h; omega
    | succ m ih =>
      intro i hm hi fm' fd' hfm hfd lv9 hlv
      refine Ex.lv (lv' := [(3, Value.int (nI i)), (0, .ref a), (1, .ref d), (2, .ref t)]) (by
        rcases hlv with rfl | ⟨w, rfl⟩
        · exact fun q h => h
        · intro q h
          simp only [List.mem_cons, List.not_mem_nil, or_false] at h ⊢
          rcases h with h | h | h | h <;> simp [h]) ?_
      repeat (first | refine Ex.p rfl ?_ | refine Ex.ldc rfl ?_ | refine Ex.ldc2 rfl ?_ | refine Ex.gf 2 0 rfl rfl rfl ?_ | refine Ex.gf 2 1 rfl rfl rfl ?_)
      refine Ex.br rfl (fun c1 => ?_) (fun c1 => ?_)
      · rw [nI_leI (by omega) (by omega), hlen] at c1
        have hi9 : i = ns.length := by omega
        refine Ex.vret rfl rfl (Nat.zero_le _) (Nat.zero_le _) rfl ⟨rfl, _, fm', fd', rfl, ⟨og, mi, dn, wy, rs, by rw [hi9]⟩, fun j n hj => hfm j n ?_ hj, fun j hj => hfd j (by omega)⟩
        have := (List.getElem?_eq_some_iff.mp hj).1
        omega
      · rw [nI_leI (by omega) (by omega), hlen] at c1
        have hi9 : i < ns.length := by omega
        have hni : ns[i]? = some ns[i] := List.getElem?_eq_getElem hi9
        have hn9 : ns[i] < hs.length := hns _ (List.getElem_mem hi9)
        repeat (first | refine Ex.p rfl ?_ | refine Ex.ldc rfl ?_ | refine Ex.ldc2 rfl ?_ | refine Ex.gf 2 0 rfl rfl rfl ?_)
        refine Ex.seg (S' := [sPl D a og mi dn wy rs fm' fd' fw fr (nI i) lst, [(d, .inr (1, [.ref ta, .ref ha, .int (nI ts.length), .int (nI hs.length)])), (ta, .inl (D.2.2.1 3, 10, .inr (.inr (.inr (.inr ft))))), (ha, .inl (D.2.2.1 4, 60, .inr (.inr (.inr (.inr fh)))))], [(t, .inr (9, [.int dm, .int (b32 pl), .ref rh, .ref ro, .long len, .int (b32 pn)]))], sRow D rh arr ch f 60 (ns.map nI).length, Co, sHs hs]) (by simp) ?_
        refine Ex.cv (Mc := mRo_get) (Rc := rm 0 0 0) (As := [.int (nI i)]) (rest := [.ref d]) (Sr := [sPl D a og mi dn wy rs fm' fd' fw fr (nI i) lst, [(d, .inr (1, [.ref ta, .ref ha, .int (nI ts.length), .int (nI hs.length)])), (ta, .inl (D.2.2.1 3, 10, .inr (.inr (.inr (.inr ft))))), (ha, .inl (D.2.2.1 4, 60, .inr (.inr (.inr (.inr fh)))))], [(t, .inr (9, [.int dm, .int (b32 pl), .ref rh, .ref ro, .long len, .int (b32 pn)]))], Co, sHs hs]) (ic := 3) (jc := 0) (ci := 5) [3] [0, 1, 2, 4, 5] (ct_Ro_get hrh) rfl lk_4_72 lcRo_get rfl rfl rfl rfl rfl (by decide) rfl rfl rfl (by decide) ⟨r1, by show 8 + (2 + 11) + 0 ≤ R.locals; omega⟩ (Nat.le_of_ble_eq_true rfl) (Nat.zero_le _) (Nat.zero_le _) ?_
        rintro v S1 ⟨rfl, rfl⟩
        rw [rget_nI hi9 (by omega), show ns.getD i 0 = ns[i] from by rw [List.getD_eq_getElem?_getD, hni]; rfl]
        refine Ex.cv (Mc := mDr_hitAt) (Rc := rm 0 0 0) (As := [.int (nI ns[i])]) (rest := []) (Sr := [sPl D a og mi dn wy rs fm' fd' fw fr (nI i) lst, [(t, .inr (9, [.int dm, .int (b32 pl), .ref rh, .ref ro, .long len, .int (b32 pn)]))], Co, sHs hs, sRow D rh arr ch f 60 (ns.map nI).length]) (ic := 1) (jc := 0) (ci := 1) [1] [0, 2, 3, 4, 5] (ct_Dr_hitAt hd9) rfl lk_4_76 lcDr_hitAt rfl rfl rfl rfl rfl (by decide) rfl rfl rfl (by decide) ⟨r1, by show 8 + (2 + 11) + 0 ≤ R.locals; omega⟩ (Nat.zero_le _) (Nat.zero_le _) (Nat.zero_le _) ?_
        rintro v S1 ⟨rfl, rfl⟩
        rw [ixo, nI_toInt (by omega), if_pos (by omega), Int.toNat_natCast, List.getElem?_eq_getElem hn9]
        have hat := sHs_at (hs := hs) (List.getElem?_eq_getElem hn9)
        refine Ex.p rfl ?_
        refine Ex.p rfl ?_
        refine Ex.nuR rfl ?_
        repeat (first | refine Ex.p rfl ?_ | refine Ex.ldc rfl ?_ | refine Ex.ldc2 rfl ?_ | refine Ex.gf 0 0 rfl rfl rfl ?_)
        refine Ex.br rfl (fun c2 => ?_) (fun c2 => ?_)
        · have c2 : nI 60 ≤ nI i := c2
          rw [nI_leI (by omega) (by omega)] at c2
          omega
        · repeat (first | refine Ex.p rfl ?_ | refine Ex.ldc rfl ?_ | refine Ex.ldc2 rfl ?_ | refine Ex.gf 0 0 rfl rfl rfl ?_)
          refine Ex.aas 0 2 i 4 3 ns[i] 3 rfl rfl rfl rfl rfl hat rfl (nI_toInt (by omega)) (by omega) ?_
          repeat (first | refine Ex.p rfl ?_ | refine Ex.ldc rfl ?_ | refine Ex.ldc2 rfl ?_ | refine Ex.gf 0 0 rfl rfl rfl ?_)
          refine Ex.zas 0 3 i rfl rfl rfl (nI_toInt (by omega)) (by omega) (Or.inl rfl) ?_
          repeat (first | refine Ex.p rfl ?_ | refine Ex.ldc rfl ?_ | refine Ex.ldc2 rfl ?_ | refine Ex.gf 0 0 rfl rfl rfl ?_)
          rw [i_add1]
          refine Ex.pf 0 0 rfl rfl rfl rfl rfl rfl ?_
          refine Ex.p rfl ?_
          refine Ex.p rfl ?_
          rw [i_add1]
          refine Ex.sub (S' := [sPl D a og mi dn wy rs (va_up fm' i (some hs[ns[i]].1)) (upd fd' i (Int32.ofInt 0)) fw fr (nI (i + 1)) lst, [(d, .inr (1, [.ref ta, .ref ha, .int (nI ts.length), .int (nI hs.length)])), (ta, .inl (D.2.2.1 3, 10, .inr (.inr (.inr (.inr ft))))), (ha, .inl (D.2.2.1 4, 60, .inr (.inr (.inr (.inr fh)))))], [(t, .inr (9, [.int dm, .int (b32 pl), .ref rh, .ref ro, .long len, .int (b32 pn)]))], sRow D rh arr ch f 60 (ns.map nI).length, Co, sHs hs]) [0, 5, 1, 4, 2, 3] rfl rfl ?_
          refine Ex.seg (S' := [sPl D a og mi dn wy rs (va_up fm' i (some hs[ns[i]].1)) (upd fd' i (Int32.ofInt 0)) fw fr (nI (i + 1)) lst, [(d, .inr (1, [.ref ta, .ref ha, .int (nI ts.length), .int (nI hs.length)])), (ta, .inl (D.2.2.1 3, 10, .inr (.inr (.inr (.inr ft))))), (ha, .inl (D.2.2.1 4, 60, .inr (.inr (.inr (.inr fh)))))], (t, .inr (9, [.int dm, .int (b32 pl), .ref rh, .ref ro, .long len, .int (b32 pn)])) :: (sRow D rh arr ch f 60 (ns.map nI).length ++ Co), sHs hs]) (by simp) ?_
          refine ih (i + 1) (by omega) (by omega) _ _ ?_ ?_ _ (Or.inr ⟨hs[ns[i]].1, rfl⟩)
          · intro j n hj hjn
            by_cases e : j = i
            · subst e
              rw [hni] at hjn
              cases hjn
              rw [va_up_self, List.getElem?_eq_getElem hn9]
              rfl
            · rw [va_up_ne _ _ e]
              exact hfm j n (by omega) hjn
          · intro j hj
            by_cases e : j = i
            · subst e
              rw [pk_us]
              rfl
            · rw [pk_un e]
              exact hfd j (by omega)
  refine Ex.p rfl ?_
  refine Ex.p rfl ?_
  exact loop (ns.length + 1) 0 (by omega) (by omega) fm fd (fun j n h => by omega) (fun j h => by omega) _ (Or.inl rfl)
end PL
end
section
/-! Planner: ways, the best of those left -/
/-- over 0 .. n-1 the first one with the least w among those that are ok -/
def nfold (ok : Nat → Bool) (w : Nat → Int32) : Nat → Option Nat × Int32
  | 0 => (none, 0)
  | n + 1 => if ok n = true ∧ ((nfold ok w n).1 = none ∨ w n < (nfold ok w n).2) then (some n, w n) else nfold ok w n
def bi (o : Option Nat) : Int32 := match o with
  | none => -1
  | some n => nI n
theorem nfold_lt {ok : Nat → Bool} {w : Nat → Int32} : ∀ {n b : Nat}, (nfold ok w n).1 = some b → b < n
  | 0, b, h => by cases h
  | n + 1, b, h => by
    unfold nfold at h
    split at h
    · cases h; omega
    · have := nfold_lt h; omega
theorem bi_m1 {o : Option Nat} (h : ∀ b, o = some b → b < 100) : bi o = -1 ↔ o = none := by
  cases o with
  | none => exact ⟨fun _ => rfl, fun _ => rfl⟩
  | some n =>
    have := h n rfl
    refine ⟨fun e => ?_, fun e => by cases e⟩
    have e : nI n = -1 := e
    have e := congrArg Int32.toInt e
    rw [nI_toInt (by omega), show (-1 : Int32).toInt = -1 from rfl] at e
    omega
theorem bit_t : ∀ s, s < 256 → ∀ n, n < 8 → (((nI s >>> (nI n &&& 31)) &&& Int32.ofInt 1) = 0 ↔ s.testBit n = false) := by decide +kernel
theorem bit_or : ∀ s, s < 256 → ∀ n, n < 8 → (nI s ||| (Int32.ofInt 1 <<< (nI n &&& 31))) = nI (s ||| 2 ^ n) ∧ (s ||| 2 ^ n) < 256 := by decide +kernel
section WA
variable {l : Launch} {D : xD} {R : Room}
theorem ct_wayG {S0 : List va_W} {C1 C2 : va_W} {i j i2 j2 a b : Nat} {g h : HV} (h1 : S0[i]? = some C1) (h1' : C1[j]? = some (cHit a g)) (h2 : S0[i2]? = some C2) (h2' : C2[j2]? = some (cHit b h)) (hr : rmOk R 1 0 0) : Ct l mHi_wayTo D R [.ref a, .ref b] S0 (fun v S => v = some (.int (hway g h)) ∧ S = S0) := by
  obtain ⟨r1, r2, r3, r4⟩ := hr
  refine Ct.of rfl (by decide) tkHi_wayTo (Nat.le_of_ble_eq_true rfl) (fun A => ?_)
  refine Ex.p rfl ?_
  refine Ex.gf i2 j2 h2 h2' rfl ?_
  refine Ex.p rfl ?_
  refine Ex.gf i j h1 h1' rfl ?_
  refine Ex.p rfl ?_
  refine Ex.mabs rfl lk_3_31 r1 (Nat.le_trans (Nat.le_of_ble_eq_true rfl) r2) (Nat.zero_le _) (Nat.zero_le _) ?_
  refine Ex.p rfl ?_
  refine Ex.gf i2 j2 h2 h2' rfl ?_
  refine Ex.p rfl ?_
  refine Ex.gf i j h1 h1' rfl ?_
  refine Ex.p rfl ?_
  refine Ex.mabs rfl lk_3_31 r1 (Nat.le_trans (Nat.le_of_ble_eq_true rfl) r2) (Nat.zero_le _) (Nat.zero_le _) ?_
  refine Ex.mmax rfl lk_3_37 r1 (Nat.le_trans (Nat.le_of_ble_eq_true rfl) r2) (Nat.zero_le _) (Nat.zero_le _) ?_
  exact Ex.iret rfl rfl (Nat.zero_le _) (Nat.zero_le _) rfl ⟨rfl, rfl⟩
theorem ct_Pl_nearest {a n i0 j0 ah : Nat} {fm : Nat → Option Nat} {fd fw fr : Nat → Int32} {lst : Int32} {Cp Hs C0 : va_W} {g : HV} {mv : Nat → HV} (hp : IsPl D a fm fd fw fr (nI n) lst Cp) (hn : n ≤ 60) (hm : ∀ j, j < n → ∃ (b i : Nat), fm j = some b ∧ Hs[i]? = some (cHit b (mv j))) (h0 : ([Cp, Hs] : List va_W)[i0]? = some C0) (h0' : C0[j0]? = some (cHit ah g)) (hpos : i0 = 0 → j0 = 1) (hr : rmOk R 2 0 0) :
    Ct l mPl_nearest D R [.ref a, .ref ah] [Cp, Hs] (fun v S => v = some (.int (bi (nfold (fun j => decide (fd j = 0)) (fun j => hway g (mv j)) n).1)) ∧ ∃ Cp', S = [Cp', Hs] ∧ IsPl D a fm fd fw fr (nI n) (nfold (fun j => decide (fd j = 0)) (fun j => hway g (mv j)) n).2 Cp') := by
  obtain ⟨og, mi, dn, wy, rs, rfl⟩ := hp
  obtain ⟨r1, r2, r3, r4⟩ := hr
  generalize hok : (fun j => decide (fd j = 0)) = ok
  generalize hwf : (fun j => hway g (mv j)) = w
  have hcell : ∀ lst', ∃ C0', ([sPl D a og mi dn wy rs fm fd fw fr (nI n) lst', Hs] : List va_W)[i0]? = some C0' ∧ C0'[j0]? = some (cHit ah g) := by
    intro lst'
    match i0, h0, hpos with
    | 0, h0, hpos =>
      have := hpos rfl
      subst this
      cases h0
      exact ⟨_, rfl, h0'⟩
    | 1, h0, _ => cases h0; exact ⟨_, rfl, h0'⟩
    | i + 2, h0, _ => simp at h0
  refine Ct.of rfl (by decide) tkPl_nearest (Nat.le_of_ble_eq_true rfl) (fun A => ?_)
  refine Ex.p rfl ?_
  refine Ex.p rfl ?_
  refine Ex.p rfl ?_
  refine Ex.p rfl ?_
  refine Ex.pf 0 0 rfl rfl rfl rfl rfl rfl ?_
  have loop : ∀ (m i : Nat), n - i < m → i ≤ n → ∀ lv9, (∃ z, lv9 = [(3, Value.int (nI i)), (2, .int (bi (nfold ok w i).1)), (4, .int z), (0, .ref a), (1, .ref ah)]) ∨ lv9 = [(3, Value.int (nI i)), (2, .int (bi (nfold ok w i).1)), (0, .ref a), (1, .ref ah)] →
      Ex l mPl_nearest D R A (xQ D A (fun v S => v = some (.int (bi (nfold ok w n).1)) ∧ ∃ Cp', S = [Cp', Hs] ∧ IsPl D a fm fd fw fr (nI n) (nfold ok w n).2 Cp')) R.cells R.slots 9 lv9 [] [sPl D a og mi dn wy rs fm fd fw fr (nI n) (nfold ok w i).2, Hs] 0 0 := by
    intro m
    induction m with
    | zero => intro i h; omega
    | succ m ih =>
      intro i him hi lv9 hlv
      refine Ex.lv (lv' := [(3, Value.int (nI i)), (2, .int (bi (nfold ok w i).1)), (0, .ref a), (1, .ref ah)]) (by
        rcases hlv with ⟨z, rfl⟩ | rfl
        · intro q h
          simp only [List.mem_cons, List.not_mem_nil, or_false] at h ⊢
          rcases h with h | h | h | h <;> simp [h]
        · exact fun q h => h) ?_
      repeat (first | refine Ex.p rfl ?_ | refine Ex.ldc rfl ?_ | refine Ex.ldc2 rfl ?_ | refine Ex.gf 0 0 rfl rfl rfl ?_)
      refine Ex.br rfl (fun c1 => ?_) (fun c1 => ?_)
      · rw [nI_leI (by omega) (by omega)] at c1
        have : i = n := by omega
        subst this
        refine Ex.p rfl ?_
        exact Ex.iret rfl rfl (Nat.zero_le _) (Nat.zero_le _) rfl ⟨rfl, _, rfl, og, mi, dn, wy, rs, rfl⟩
      · rw [nI_leI (by omega) (by omega)] at c1
        have hin : i < n := by omega
        repeat (first | refine Ex.p rfl ?_ | refine Ex.ldc rfl ?_ | refine Ex.ldc2 rfl ?_ | refine Ex.gf 0 0 rfl rfl rfl ?_)
        refine Ex.zal 0 3 i rfl rfl rfl (nI_toInt (by omega)) (by omega) ?_
        refine Ex.br rfl (fun c2 => ?_) (fun c2 => ?_)
        · have c2 : ¬ fd i = 0 := c2
          have e : nfold ok w (i + 1) = nfold ok w i := by
            show (if ok i = true ∧ ((nfold ok w i).1 = none ∨ w i < (nfold ok w i).2) then (some i, w i) else nfold ok w i) = _
            rw [if_neg]
            rw [← hok]
            simp [c2]
          refine Ex.p rfl ?_
          refine Ex.p rfl ?_
          rw [i_add1]
          have ih' := ih (i + 1) (by omega) (by omega)
          rw [e] at ih'
          exact ih' _ (Or.inr rfl)
        · have c2 : ¬ ¬ fd i = 0 := c2
          have c2 : fd i = 0 := Decidable.byContradiction c2
          have hoki : ok i = true := by rw [← hok]; simp [c2]
          obtain ⟨b, ib, eb, hat⟩ := hm i hin
          obtain ⟨C0', g0, g1⟩ := hcell (nfold ok w i).2
          repeat (first | refine Ex.p rfl ?_ | refine Ex.ldc rfl ?_ | refine Ex.ldc2 rfl ?_ | refine Ex.gf 0 0 rfl rfl rfl ?_)
          refine Ex.aal 0 2 i 4 rfl rfl rfl rfl (nI_toInt (by omega)) (by omega) ?_
          rw [eb]
          refine Ex.cv (Mc := mHi_wayTo) (Rc := rm 1 0 0) (As := [.ref b]) (rest := []) (Sr := []) (ic := i0) (jc := j0) (ci := 3) [0, 1] [] (ct_wayG g0 g1 (i2 := 1) rfl hat (rm_ok _ _ _)) rfl lk_4_82 lcHi_wayTo rfl rfl rfl rfl rfl (by decide) g0 g1 rfl (by decide) ⟨r1, by show 8 + (2 + 11) + 40 ≤ R.locals; omega⟩ (Nat.zero_le _) (Nat.zero_le _) (Nat.zero_le _) ?_
          rintro v S1 ⟨rfl, rfl⟩
          have hwi : hway g (mv i) = w i := by rw [← hwf]
          rw [hwi]
          have hb100 : ∀ b, (nfold ok w i).1 = some b → b < 100 := fun b hb => by have := nfold_lt hb; omega
          have take9 : ((nfold ok w i).1 = none ∨ w i < (nfold ok w i).2) → Ex l mPl_nearest D R A (xQ D A (fun v S => v = some (.int (bi (nfold ok w n).1)) ∧ ∃ Cp', S = [Cp', Hs] ∧ IsPl D a fm fd fw fr (nI n) (nfold ok w n).2 Cp')) R.cells R.slots 52 [(4, Value.int (w i)), (3, .int (nI i)), (2, .int (bi (nfold ok w i).1)), (0, .ref a), (1, .ref ah)] [] [sPl D a og mi dn wy rs fm fd fw fr (nI n) (nfold ok w i).2, Hs] 0 0 := by
            intro hc
            have e : nfold ok w (i + 1) = (some i, w i) := by
              show (if ok i = true ∧ ((nfold ok w i).1 = none ∨ w i < (nfold ok w i).2) then (some i, w i) else nfold ok w i) = _
              rw [if_pos ⟨hoki, hc⟩]
            refine Ex.p rfl ?_
            refine Ex.p rfl ?_
            refine Ex.p rfl ?_
            refine Ex.p rfl ?_
            refine Ex.pf 0 0 rfl rfl rfl rfl rfl rfl ?_
            refine Ex.p rfl ?_
            refine Ex.p rfl ?_
            rw [i_add1]
            have ih' := ih (i + 1) (by omega) (by omega)
            rw [e] at ih'
            exact ih' _ (Or.inl ⟨w i, rfl⟩)
          refine Ex.p rfl ?_
          refine Ex.p rfl ?_
          refine Ex.p rfl ?_
          refine Ex.br rfl (fun c3 => ?_) (fun c3 => ?_)
          · have c3 : bi (nfold ok w i).1 = -1 := c3
            rw [bi_m1 hb100] at c3
            exact take9 (Or.inl c3)
          · have c3 : ¬ bi (nfold ok w i).1 = -1 := c3
            rw [bi_m1 hb100] at c3
            repeat (first | refine Ex.p rfl ?_ | refine Ex.ldc rfl ?_ | refine Ex.ldc2 rfl ?_ | refine Ex.gf 0 0 rfl rfl rfl ?_)
            refine Ex.br rfl (fun c4 => ?_) (fun c4 => ?_)
            · have c4 : (nfold ok w i).2 ≤ w i := c4
              have e : nfold ok w (i + 1) = nfold ok w i := by
                show (if ok i = true ∧ ((nfold ok w i).1 = none ∨ w i < (nfold ok w i).2) then (some i, w i) else nfold ok w i) = _
                rw [if_neg]
                rintro ⟨-, q | q⟩
                · exact c3 q
                · rw [Int32.le_iff_toInt_le] at c4
                  rw [Int32.lt_iff_toInt_lt] at q
                  omega
              refine Ex.p rfl ?_
              refine Ex.p rfl ?_
              rw [i_add1]
              have ih' := ih (i + 1) (by omega) (by omega)
              rw [e] at ih'
              refine Ex.is [0, 2, 1, 3, 4] rfl rfl ?_
              exact ih' _ (Or.inl ⟨w i, rfl⟩)
            · have c4 : ¬ (nfold ok w i).2 ≤ w i := c4
              rw [Int32.le_iff_toInt_le] at c4
              exact take9 (Or.inr (Int32.lt_iff_toInt_lt.mpr (by omega)))
  refine Ex.p rfl ?_
  refine Ex.p rfl ?_
  exact loop (n + 1) 0 (by omega) (by omega) _ (Or.inr rfl)
end WA
end
section
/-! Planner: bestNext, measureWays -/
/-- what bestNext weighs -/
def bw (fw fr : Nat → Int32) (s la j : Nat) : Int32 := fw (la * 8 + j) + fr ((s ||| 2 ^ j) * 8 + j)
section BN
variable {l : Launch} {D : xD} {R : Room}
theorem ct_Pl_bestNext {a n s la : Nat} {fm : Nat → Option Nat} {fd fw fr : Nat → Int32} {lst : Int32} {Cp : va_W} (hp : IsPl D a fm fd fw fr (nI n) lst Cp) (hn : n ≤ 8) (hs : s < 256) (hla : la ≤ 8) :
    Ct l mPl_bestNext D R [.ref a, .int (nI s), .int (nI la)] [Cp] (fun v S => v = some (.int (bi (nfold (fun j => !s.testBit j) (bw fw fr s la) n).1)) ∧ ∃ Cp', S = [Cp'] ∧ IsPl D a fm fd fw fr (nI n) (nfold (fun j => !s.testBit j) (bw fw fr s la) n).2 Cp') := by
  obtain ⟨og, mi, dn, wy, rs, rfl⟩ := hp
  generalize hok : (fun j => !s.testBit j) = ok
  generalize hwf : bw fw fr s la = w
  refine Ct.of rfl (by decide) tkPl_bestNext (Nat.le_of_ble_eq_true rfl) (fun A => ?_)
  refine Ex.p rfl ?_
  refine Ex.p rfl ?_
  refine Ex.p rfl ?_
  refine Ex.p rfl ?_
  refine Ex.pf 0 0 rfl rfl rfl rfl rfl rfl ?_
  have loop : ∀ (m i : Nat), n - i < m → i ≤ n → ∀ lv9 : List (Nat × Value), (∀ q ∈ [(4, Value.int (nI i)), (3, .int (bi (nfold ok w i).1)), (0, .ref a), (1, .int (nI s)), (2, .int (nI la))], q ∈ lv9) →
      Ex l mPl_bestNext D R A (xQ D A (fun v S => v = some (.int (bi (nfold ok w n).1)) ∧ ∃ Cp', S = [Cp'] ∧ IsPl D a fm fd fw fr (nI n) (nfold ok w n).2 Cp')) R.cells R.slots 10 lv9 [] [sPl D a og mi dn wy rs fm fd fw fr (nI n) (nfold ok w i).2] 0 0 := by
    intro m
    induction m with
    | zero => intro i h; omega
    | succ m ih =>
      intro i him hi lv9 hlv
      refine Ex.lv hlv ?_
      repeat (first | refine Ex.p rfl ?_ | refine Ex.ldc rfl ?_ | refine Ex.ldc2 rfl ?_ | refine Ex.gf 0 0 rfl rfl rfl ?_)
      refine Ex.br rfl (fun c1 => ?_) (fun c1 => ?_)
      · rw [nI_leI (by omega) (by omega)] at c1
        have : i = n := by omega
        subst this
        refine Ex.p rfl ?_
        exact Ex.iret rfl rfl (Nat.zero_le _) (Nat.zero_le _) rfl ⟨rfl, _, rfl, og, mi, dn, wy, rs, rfl⟩
      · rw [nI_leI (by omega) (by omega)] at c1
        have hin : i < n := by omega
        have hbt := bit_t s hs i (by omega)
        obtain ⟨ho1, ho2⟩ := bit_or s hs i (by omega)
        refine Ex.p rfl ?_
        refine Ex.p rfl ?_
        refine Ex.p rfl ?_
        refine Ex.p rfl ?_
        refine Ex.p rfl ?_
        refine Ex.br rfl (fun c2 => ?_) (fun c2 => ?_)
        · have c2 : ¬ ((nI s >>> (nI i &&& 31)) &&& Int32.ofInt 1) = 0 := c2
          rw [hbt] at c2
          have e : nfold ok w (i + 1) = nfold ok w i := by
            show (if ok i = true ∧ ((nfold ok w i).1 = none ∨ w i < (nfold ok w i).2) then (some i, w i) else nfold ok w i) = _
            rw [if_neg]
            rw [← hok]
            simp at c2
            simp [c2]
          refine Ex.p rfl ?_
          refine Ex.p rfl ?_
          rw [i_add1]
          have ih' := ih (i + 1) (by omega) (by omega)
          rw [e] at ih'
          refine ih' _ (fun q h => ?_)
          simp only [List.mem_cons, List.not_mem_nil, or_false] at h
          rcases h with rfl | rfl | rfl | rfl | rfl <;> simp [xs1, Value.category]
        · have c2 : ¬ ¬ ((nI s >>> (nI i &&& 31)) &&& Int32.ofInt 1) = 0 := c2
          have c2 : ((nI s >>> (nI i &&& 31)) &&& Int32.ofInt 1) = 0 := Decidable.byContradiction c2
          rw [hbt] at c2
          have hoki : ok i = true := by rw [← hok]; simp [c2]
          repeat (first | refine Ex.p rfl ?_ | refine Ex.ldc rfl ?_ | refine Ex.ldc2 rfl ?_ | refine Ex.gf 0 0 rfl rfl rfl ?_)
          rw [ho1, show (Int8.ofInt 8).toInt32 = nI 8 from rfl, pk_mul, nI_add]
          refine Ex.ial 0 5 ((s ||| 2 ^ i) * 8 + i) rfl rfl rfl (nI_toInt (by omega)) (by omega) ?_
          repeat (first | refine Ex.p rfl ?_ | refine Ex.ldc rfl ?_ | refine Ex.ldc2 rfl ?_ | refine Ex.gf 0 0 rfl rfl rfl ?_)
          rw [show (Int8.ofInt 8).toInt32 = nI 8 from rfl, pk_mul, nI_add]
          refine Ex.ial 0 4 (la * 8 + i) rfl rfl rfl (nI_toInt (by omega)) (by omega) ?_
          have hwi : fw (la * 8 + i) + fr ((s ||| 2 ^ i) * 8 + i) = w i := by rw [← hwf]; rfl
          refine Ex.p rfl ?_
          refine Ex.p rfl ?_
          rw [hwi]
          have hb100 : ∀ b, (nfold ok w i).1 = some b → b < 100 := fun b hb => by have := nfold_lt hb; omega
          have take9 : ((nfold ok w i).1 = none ∨ w i < (nfold ok w i).2) → Ex l mPl_bestNext D R A (xQ D A (fun v S => v = some (.int (bi (nfold ok w n).1)) ∧ ∃ Cp', S = [Cp'] ∧ IsPl D a fm fd fw fr (nI n) (nfold ok w n).2 Cp')) R.cells R.slots 78 [(6, Value.int (w i)), (5, .int (fr ((s ||| 2 ^ i) * 8 + i))), (4, .int (nI i)), (3, .int (bi (nfold ok w i).1)), (0, .ref a), (1, .int (nI s)), (2, .int (nI la))] [] [sPl D a og mi dn wy rs fm fd fw fr (nI n) (nfold ok w i).2] 0 0 := by
            intro hc
            have e : nfold ok w (i + 1) = (some i, w i) := by
              show (if ok i = true ∧ ((nfold ok w i).1 = none ∨ w i < (nfold ok w i).2) then (some i, w i) else nfold ok w i) = _
              rw [if_pos ⟨hoki, hc⟩]
            refine Ex.p rfl ?_
            refine Ex.p rfl ?_
            refine Ex.p rfl ?_
            refine Ex.p rfl ?_
            refine Ex.pf 0 0 rfl rfl rfl rfl rfl rfl ?_
            refine Ex.p rfl ?_
            refine Ex.p rfl ?_
            rw [i_add1]
            have ih' := ih (i + 1) (by omega) (by omega)
            rw [e] at ih'
            refine Ex.is [0, 1, 4, 5, 6] rfl rfl ?_
            exact ih' _ (fun q h => h)
          refine Ex.p rfl ?_
          refine Ex.p rfl ?_
          refine Ex.p rfl ?_
          refine Ex.br rfl (fun c3 => ?_) (fun c3 => ?_)
          · have c3 : bi (nfold ok w i).1 = -1 := c3
            rw [bi_m1 hb100] at c3
            exact take9 (Or.inl c3)
          · have c3 : ¬ bi (nfold ok w i).1 = -1 := c3
            rw [bi_m1 hb100] at c3
            repeat (first | refine Ex.p rfl ?_ | refine Ex.ldc rfl ?_ | refine Ex.ldc2 rfl ?_ | refine Ex.gf 0 0 rfl rfl rfl ?_)
            refine Ex.br rfl (fun c4 => ?_) (fun c4 => ?_)
            · have c4 : (nfold ok w i).2 ≤ w i := c4
              have e : nfold ok w (i + 1) = nfold ok w i := by
                show (if ok i = true ∧ ((nfold ok w i).1 = none ∨ w i < (nfold ok w i).2) then (some i, w i) else nfold ok w i) = _
                rw [if_neg]
                rintro ⟨-, q | q⟩
                · exact c3 q
                · rw [Int32.le_iff_toInt_le] at c4
                  rw [Int32.lt_iff_toInt_lt] at q
                  omega
              refine Ex.p rfl ?_
              refine Ex.p rfl ?_
              rw [i_add1]
              have ih' := ih (i + 1) (by omega) (by omega)
              rw [e] at ih'
              refine ih' _ (fun q h => ?_)
              simp only [List.mem_cons, List.not_mem_nil, or_false] at h
              rcases h with rfl | rfl | rfl | rfl | rfl <;> simp [xs1, Value.category]
            · have c4 : ¬ (nfold ok w i).2 ≤ w i := c4
              rw [Int32.le_iff_toInt_le] at c4
              exact take9 (Or.inr (Int32.lt_iff_toInt_lt.mpr (by omega)))
  refine Ex.p rfl ?_
  refine Ex.p rfl ?_
  exact loop (n + 1) 0 (by omega) (by omega) _ (fun q h => h)
end BN
end
section
/-! Planner: measureWays -/
/-- the ways between k hits, and from 0, 0 -/
def WaysOK (k : Nat) (mv : Nat → HV) (fw : Nat → Int32) : Prop := (∀ la nx, la < k → nx < k → fw (la * 8 + nx) = hway (mv la) (mv nx)) ∧ ∀ nx, nx < k → fw (64 + nx) = hway ogv (mv nx)
section MW
variable {l : Launch} {D : xD} {R : Room}
theorem ct_Pl_measureWays {a n : Nat} {fm : Nat → Option Nat} {fd fw fr : Nat → Int32} {lst : Int32} {Cp Hs : va_W} {mv : Nat → HV} (hp : IsPl D a fm fd fw fr (nI n) lst Cp) (hn : n ≤ 8) (hm : ∀ j, j < n → ∃ (b i : Nat), fm j = some b ∧ Hs[i]? = some (cHit b (mv j))) (hr : rmOk R 2 0 0) :
    Ct l mPl_measureWays D R [.ref a] [Cp, Hs] (fun v S => v = none ∧ ∃ Cp' fw', S = [Cp', Hs] ∧ IsPl D a fm fd fw' fr (nI n) lst Cp' ∧ WaysOK n mv fw') := by
  obtain ⟨og, mi, dn, wy, rs, rfl⟩ := hp
  obtain ⟨r1, r2, r3, r4⟩ := hr
  refine Ct.of rfl (by decide) tkPl_measureWays (Nat.le_of_ble_eq_true rfl) (fun A => ?_)
  generalize hQ : (fun (v : Option Value) S => v = none ∧ ∃ Cp' fw', S = [Cp', Hs] ∧ IsPl D a fm fd fw' fr (nI n) lst Cp' ∧ WaysOK n mv fw') = Q
  have outer : ∀ (m i : Nat), n - i < m → i ≤ n → ∀ (fw' : Nat → Int32), (∀ la nx, la < n → nx < i → fw' (la * 8 + nx) = hway (mv la) (mv nx)) → (∀ nx, nx < i → fw' (64 + nx) = hway ogv (mv nx)) → ∀ lv9 : List (Nat × Value), (∀ q ∈ [(1, Value.int (nI i)), (0, .ref a)], q ∈ lv9) →
      Ex l mPl_measureWays D R A (xQ D A Q) R.cells R.slots 2 lv9 [] [sPl D a og mi dn wy rs fm fd fw' fr (nI n) lst, Hs] 0 0 := by
    intro m
    induction m with
    | zero => intro i h; omega
    | succ m ih =>
      intro i him hi fw' hw1 hw2 lv9 hlv
      refine Ex.lv hlv ?_
      repeat (first | refine Ex.p rfl ?_ | refine Ex.ldc rfl ?_ | refine Ex.ldc2 rfl ?_ | refine Ex.gf 0 0 rfl rfl rfl ?_)
      refine Ex.br rfl (fun c1 => ?_) (fun c1 => ?_)
      · rw [nI_leI (by omega) (by omega)] at c1
        have : i = n := by omega
        subst this
        refine Ex.vret rfl rfl (Nat.zero_le _) (Nat.zero_le _) rfl ?_
        subst hQ
        exact ⟨rfl, _, fw', rfl, ⟨og, mi, dn, wy, rs, rfl⟩, hw1, hw2⟩
      · rw [nI_leI (by omega) (by omega)] at c1
        have hin : i < n := by omega
        obtain ⟨b, ib, eb, hat⟩ := hm i hin
        have inner : ∀ (m2 j : Nat), n - j < m2 → j ≤ n → ∀ (fw2 : Nat → Int32), (∀ la nx, la < n → nx < i → fw2 (la * 8 + nx) = hway (mv la) (mv nx)) → (∀ nx, nx < i → fw2 (64 + nx) = hway ogv (mv nx)) → (∀ la, la < j → fw2 (la * 8 + i) = hway (mv la) (mv i)) →
            Ex l mPl_measureWays D R A (xQ D A Q) R.cells R.slots 12 [(2, Value.int (nI j)), (1, .int (nI i)), (0, .ref a)] [] [sPl D a og mi dn wy rs fm fd fw2 fr (nI n) lst, Hs] 0 0 := by
          intro m2
          induction m2 with
          | zero => intro j h; omega
          | succ m2 ih2 =>
            intro j hjm hj fw2 g1 g2 g3
            repeat (first | refine Ex.p rfl ?_ | refine Ex.ldc rfl ?_ | refine Ex.ldc2 rfl ?_ | refine Ex.gf 0 0 rfl rfl rfl ?_)
            refine Ex.br rfl (fun c2 => ?_) (fun c2 => ?_)
            · rw [nI_leI (by omega) (by omega)] at c2
              repeat (first | refine Ex.p rfl ?_ | refine Ex.ldc rfl ?_ | refine Ex.ldc2 rfl ?_ | refine Ex.gf 0 0 rfl rfl rfl ?_)
              refine Ex.aal 0 2 i 4 rfl rfl rfl rfl (nI_toInt (by omega)) (by omega) ?_
              rw [eb, show (Int8.ofInt 64).toInt32 = nI 64 from rfl, nI_add]
              refine Ex.cv (Mc := mHi_wayTo) (Rc := rm 1 0 0) (As := [.ref b]) (rest := [.int (nI (64 + i)), .ref wy]) (Sr := []) (ic := 0) (jc := 1) (ci := 3) [0, 1] [] (ct_wayG (S0 := [sPl D a og mi dn wy rs fm fd fw2 fr (nI n) lst, Hs]) (i := 0) (j := 1) (i2 := 1) rfl rfl rfl hat (rm_ok _ _ _)) rfl lk_4_82 lcHi_wayTo rfl rfl rfl rfl rfl (by decide) rfl rfl rfl (by decide) ⟨r1, by show 8 + (2 + 11) + 40 ≤ R.locals; omega⟩ (Nat.le_of_ble_eq_true rfl) (Nat.zero_le _) (Nat.zero_le _) ?_
              rintro v S1 ⟨rfl, rfl⟩
              refine Ex.ias 0 4 (64 + i) rfl rfl rfl (nI_toInt (by omega)) (by omega) ?_
              refine Ex.p rfl ?_
              refine Ex.p rfl ?_
              rw [i_add1]
              refine ih (i + 1) (by omega) (by omega) (upd fw2 (64 + i) (hway ogv (mv i))) ?_ ?_ _ (fun q h => ?_)
              · intro la nx h1 h2
                rw [pk_un (by omega)]
                by_cases e : nx = i
                · subst e; exact g3 la (by omega)
                · exact g1 la nx h1 (by omega)
              · intro nx h2
                by_cases e : nx = i
                · subst e; exact pk_us
                · rw [pk_un (by omega)]
                  exact g2 nx (by omega)
              · simp only [List.mem_cons, List.not_mem_nil, or_false] at h
                rcases h with rfl | rfl <;> simp [xs1, Value.category]
            · rw [nI_leI (by omega) (by omega)] at c2
              have hjn : j < n := by omega
              obtain ⟨b2, ib2, eb2, hat2⟩ := hm j hjn
              repeat (first | refine Ex.p rfl ?_ | refine Ex.ldc rfl ?_ | refine Ex.ldc2 rfl ?_ | refine Ex.gf 0 0 rfl rfl rfl ?_)
              rw [show (Int8.ofInt 8).toInt32 = nI 8 from rfl, pk_mul, nI_add]
              refine Ex.aal 0 2 j 4 rfl rfl rfl rfl (nI_toInt (by omega)) (by omega) ?_
              rw [eb2]
              repeat (first | refine Ex.p rfl ?_ | refine Ex.ldc rfl ?_ | refine Ex.ldc2 rfl ?_ | refine Ex.gf 0 0 rfl rfl rfl ?_)
              refine Ex.aal 0 2 i 4 rfl rfl rfl rfl (nI_toInt (by omega)) (by omega) ?_
              rw [eb]
              refine Ex.cv (Mc := mHi_wayTo) (Rc := rm 1 0 0) (As := [.ref b]) (rest := [.int (nI (j * 8 + i)), .ref wy]) (Sr := []) (ic := 1) (jc := ib2) (ci := 3) [0, 1] [] (ct_wayG (S0 := [sPl D a og mi dn wy rs fm fd fw2 fr (nI n) lst, Hs]) (i := 1) (i2 := 1) rfl hat2 rfl hat (rm_ok _ _ _)) rfl lk_4_82 lcHi_wayTo rfl rfl rfl rfl rfl (by decide) rfl hat2 rfl (by decide) ⟨r1, by show 8 + (2 + 11) + 40 ≤ R.locals; omega⟩ (Nat.le_of_ble_eq_true rfl) (Nat.zero_le _) (Nat.zero_le _) ?_
              rintro v S1 ⟨rfl, rfl⟩
              refine Ex.ias 0 4 (j * 8 + i) rfl rfl rfl (nI_toInt (by omega)) (by omega) ?_
              refine Ex.p rfl ?_
              refine Ex.p rfl ?_
              rw [i_add1]
              refine ih2 (j + 1) (by omega) (by omega) (upd fw2 (j * 8 + i) (hway (mv j) (mv i))) ?_ ?_ ?_
              · intro la nx h1 h2
                rw [pk_un (by omega)]
                exact g1 la nx h1 h2
              · intro nx h2
                rw [pk_un (by omega)]
                exact g2 nx h2
              · intro la h1
                by_cases e : la = j
                · subst e; exact pk_us
                · rw [pk_un (by omega)]
                  exact g3 la (by omega)
        refine Ex.p rfl ?_
        refine Ex.p rfl ?_
        exact inner (n + 1) 0 (by omega) (by omega) fw' hw1 hw2 (fun la h => by omega)
  refine Ex.p rfl ?_
  refine Ex.p rfl ?_
  exact outer (n + 1) 0 (by omega) (by omega) fw (fun la nx _ h => by omega) (fun nx h => by omega) _ (fun q h => h)
end MW
end
section
/-! Planner: measureRest -/
theorem nfold_congr {ok : Nat → Bool} {w w' : Nat → Int32} : ∀ {n : Nat}, (∀ j, j < n → ok j = true → w j = w' j) → nfold ok w n = nfold ok w' n
  | 0, _ => rfl
  | n + 1, h => by
    have ih := nfold_congr (n := n) (fun j hj ho => h j (by omega) ho)
    unfold nfold
    rw [ih]
    by_cases ho : ok n = true
    · rw [h n (by omega) ho]
    · rw [if_neg (fun q => ho q.1), if_neg (fun q => ho q.1)]
theorem or_gt : ∀ s, s < 256 → ∀ j, j < 8 → s ≤ (s ||| 2 ^ j) ∧ (s.testBit j = false → s < (s ||| 2 ^ j)) := by decide +kernel
theorem sh_all : ∀ n, n ≤ 8 → (Int32.ofInt 1 <<< (nI n &&& 31)) - Int32.ofInt 1 = nI (2 ^ n - 1) ∧ 2 ^ n ≤ 256 ∧ 1 ≤ 2 ^ n := by decide +kernel
/-- the row of a set and its last: what is least behind it -/
def RestEq (n : Nat) (fw fr : Nat → Int32) (s la : Nat) : Prop := fr (s * 8 + la) = (nfold (fun j => !s.testBit j) (bw fw fr s la) n).2
def RestOK (n : Nat) (fw fr : Nat → Int32) : Prop := ∀ s la, 0 < s → s < 2 ^ n → la < n → s.testBit la = true → RestEq n fw fr s la
theorem RestEq.keep {n : Nat} {fw fr : Nat → Int32} {s la s0 la0 : Nat} {v : Int32} (hn : n ≤ 8) (hs : s < 256) (hla : la < n) (hla0 : la0 < n) (h : RestEq n fw fr s la) (hne : s0 < s ∨ (s0 = s ∧ la ≠ la0)) : RestEq n fw (upd fr (s0 * 8 + la0) v) s la := by
  unfold RestEq at h ⊢
  rw [pk_un (by omega), h]
  congr 1
  refine nfold_congr fun j hj ho => ?_
  have hg := or_gt s hs j (by omega)
  have hb : s.testBit j = false := by simpa using ho
  have := hg.2 hb
  unfold bw
  rw [pk_un (by omega)]
section MR
variable {l : Launch} {D : xD} {R : Room}
theorem ct_Pl_measureRest {a n : Nat} {fm : Nat → Option Nat} {fd fw fr : Nat → Int32} {lst : Int32} {Cp : va_W} (hp : IsPl D a fm fd fw fr (nI n) lst Cp) (hn : n ≤ 8) (hr : rmOk R 1 0 0) :
    Ct l mPl_measureRest D R [.ref a] [Cp] (fun v S => v = none ∧ ∃ Cp' fr' lst', S = [Cp'] ∧ IsPl D a fm fd fw fr' (nI n) lst' Cp' ∧ RestOK n fw fr') := by
  obtain ⟨og, mi, dn, wy, rs, rfl⟩ := hp
  obtain ⟨r1, r2, r3, r4⟩ := hr
  obtain ⟨hsh, h256, h1n⟩ := sh_all n hn
  refine Ct.of rfl (by decide) tkPl_measureRest (Nat.le_of_ble_eq_true rfl) (fun A => ?_)
  generalize hQ : (fun (v : Option Value) S => v = none ∧ ∃ Cp' fr' lst', S = [Cp'] ∧ IsPl D a fm fd fw fr' (nI n) lst' Cp' ∧ RestOK n fw fr') = Q
  have outer : ∀ (σ : Nat), σ < 2 ^ n → ∀ (og mi dn wy rs : Nat) (fr' : Nat → Int32) (lst' : Int32), (∀ s la, σ < s → s < 2 ^ n → la < n → s.testBit la = true → RestEq n fw fr' s la) → ∀ lv9 : List (Nat × Value), (∀ q ∈ [(1, Value.int (nI σ)), (0, .ref a)], q ∈ lv9) →
      Ex l mPl_measureRest D R A (xQ D A Q) R.cells R.slots 9 lv9 [] [sPl D a og mi dn wy rs fm fd fw fr' (nI n) lst'] 0 0 := by
    intro σ
    induction σ with
    | zero =>
      intro hσ og mi dn wy rs fr' lst' hrest lv9 hlv
      refine Ex.lv hlv ?_
      refine Ex.p rfl ?_
      refine Ex.br rfl (fun _ => ?_) (fun c => absurd (by decide) c)
      refine Ex.vret rfl rfl (Nat.zero_le _) (Nat.zero_le _) rfl ?_
      subst hQ
      exact ⟨rfl, _, fr', lst', rfl, ⟨og, mi, dn, wy, rs, rfl⟩, hrest⟩
    | succ σ ih =>
      intro hσ og mi dn wy rs fr' lst' hrest lv9 hlv
      refine Ex.lv hlv ?_
      refine Ex.p rfl ?_
      refine Ex.br rfl (fun c => absurd c (nI_nle (by omega) (by omega))) (fun _ => ?_)
      have inner : ∀ (m2 j : Nat), n - j < m2 → j ≤ n → ∀ (og mi dn wy rs : Nat) (fr2 : Nat → Int32) (lst2 : Int32), (∀ s la, σ + 1 < s → s < 2 ^ n → la < n → s.testBit la = true → RestEq n fw fr2 s la) → (∀ la, la < j → (σ + 1).testBit la = true → RestEq n fw fr2 (σ + 1) la) →
          Ex l mPl_measureRest D R A (xQ D A Q) R.cells R.slots 15 [(2, Value.int (nI j)), (1, .int (nI (σ + 1))), (0, .ref a)] [] [sPl D a og mi dn wy rs fm fd fw fr2 (nI n) lst2] 0 0 := by
        intro m2
        induction m2 with
        | zero => intro j h; omega
        | succ m2 ih2 =>
          intro j hjm hj og mi dn wy rs fr2 lst2 g1 g2
          repeat (first | refine Ex.p rfl ?_ | refine Ex.ldc rfl ?_ | refine Ex.ldc2 rfl ?_ | refine Ex.gf 0 0 rfl rfl rfl ?_)
          refine Ex.br rfl (fun c2 => ?_) (fun c2 => ?_)
          · rw [nI_leI (by omega) (by omega)] at c2
            refine Ex.p rfl ?_
            refine Ex.p rfl ?_
            rw [show nI (σ + 1) + Int32.ofInt (-1) = nI σ from pk_m1 σ]
            refine ih (by omega) og mi dn wy rs fr2 lst2 ?_ _ (fun q h => ?_)
            · intro s la h1 h2 h3 h4
              by_cases e : s = σ + 1
              · subst e; exact g2 la (by omega) h4
              · exact g1 s la (by omega) h2 h3 h4
            · simp only [List.mem_cons, List.not_mem_nil, or_false] at h
              rcases h with rfl | rfl <;> simp [xs1, Value.category]
          · rw [nI_leI (by omega) (by omega)] at c2
            have hjn : j < n := by omega
            have hbt := bit_t (σ + 1) (by omega) j (by omega)
            refine Ex.p rfl ?_
            refine Ex.p rfl ?_
            refine Ex.p rfl ?_
            refine Ex.p rfl ?_
            refine Ex.p rfl ?_
            refine Ex.br rfl (fun c3 => ?_) (fun c3 => ?_)
            · have c3 : ((nI (σ + 1) >>> (nI j &&& 31)) &&& Int32.ofInt 1) = 0 := c3
              rw [hbt] at c3
              refine Ex.p rfl ?_
              refine Ex.p rfl ?_
              rw [i_add1]
              refine ih2 (j + 1) (by omega) (by omega) og mi dn wy rs fr2 lst2 g1 ?_
              intro la h1 h2
              by_cases e : la = j
              · subst e; rw [c3] at h2; cases h2
              · exact g2 la (by omega) h2
            · have c3 : ¬ ((nI (σ + 1) >>> (nI j &&& 31)) &&& Int32.ofInt 1) = 0 := c3
              rw [hbt] at c3
              refine Ex.p rfl ?_
              refine Ex.p rfl ?_
              refine Ex.p rfl ?_
              refine Ex.cv (Mc := mPl_bestNext) (Rc := rm 0 0 0) (As := [.int (nI (σ + 1)), .int (nI j)]) (rest := []) (Sr := []) (ic := 0) (jc := 0) (ci := 4) [0] [] (ct_Pl_bestNext ⟨og, mi, dn, wy, rs, rfl⟩ hn (by omega) (by omega)) rfl lk_4_86 lcPl_bestNext rfl rfl rfl rfl rfl (by decide) rfl rfl rfl (by decide) ⟨r1, by show 8 + (7 + 11) + 0 ≤ R.locals; omega⟩ (Nat.zero_le _) (Nat.zero_le _) (Nat.zero_le _) ?_
              rintro v S1 ⟨rfl, Cp', rfl, og', mi', dn', wy', rs', rfl⟩
              repeat (first | refine Ex.p rfl ?_ | refine Ex.ldc rfl ?_ | refine Ex.ldc2 rfl ?_ | refine Ex.gf 0 0 rfl rfl rfl ?_)
              rw [show (Int8.ofInt 8).toInt32 = nI 8 from rfl, pk_mul, nI_add]
              repeat (first | refine Ex.p rfl ?_ | refine Ex.ldc rfl ?_ | refine Ex.ldc2 rfl ?_ | refine Ex.gf 0 0 rfl rfl rfl ?_)
              refine Ex.ias 0 5 ((σ + 1) * 8 + j) rfl rfl rfl (nI_toInt (by omega)) (by omega) ?_
              refine Ex.p rfl ?_
              refine Ex.p rfl ?_
              rw [i_add1]
              refine ih2 (j + 1) (by omega) (by omega) og' mi' dn' wy' rs' _ _ ?_ ?_
              · intro s la h1 h2 h3 h4
                exact (g1 s la h1 h2 h3 h4).keep hn (by omega) h3 hjn (Or.inl h1)
              · intro la h1 h2
                by_cases e : la = j
                · subst e
                  unfold RestEq
                  rw [pk_us]
                  congr 1
                  refine nfold_congr fun j2 hj2 ho => ?_
                  have hb : (σ + 1).testBit j2 = false := by simpa using ho
                  have := (or_gt (σ + 1) (by omega) j2 (by omega)).2 hb
                  unfold bw
                  rw [pk_un (by omega)]
                · exact (g2 la (by omega) h2).keep hn (by omega) (by omega) hjn (Or.inr ⟨rfl, e⟩)
      refine Ex.p rfl ?_
      refine Ex.p rfl ?_
      exact inner (n + 1) 0 (by omega) (by omega) og mi dn wy rs fr' lst' hrest (fun la h => by omega)
  refine Ex.p rfl ?_
  refine Ex.p rfl ?_
  refine Ex.gf 0 0 rfl rfl rfl ?_
  refine Ex.p rfl ?_
  refine Ex.p rfl ?_
  refine Ex.p rfl ?_
  rw [hsh]
  refine Ex.p rfl ?_
  exact outer (2 ^ n - 1) (by omega) og mi dn wy rs fr lst (fun s la h1 h2 => by omega) _ (fun q h => h)
end MR
end
section
/-! Planner: planLeast -/
def picks (n : Nat) (fw fr : Nat → Int32) : Nat → Nat → Nat → List Nat
  | 0, _, _ => []
  | k + 1, s, la => match (nfold (fun j => !s.testBit j) (bw fw fr s la) n).1 with
    | none => []
    | some b => b :: picks n fw fr k (s ||| 2 ^ b) b
/-- the ways of picks, summed onto v -/
def pacc (fw : Nat → Int32) : Int64 → Nat → List Nat → Int64
  | v, _, [] => v
  | v, la, b :: bs => pacc fw (v + (fw (la * 8 + b)).toInt64) b bs
section LE
variable {l : Launch} {D : xD} {R : Room}
theorem ct_Pl_planLeast {a n t ch co : Nat} {fm : Nat → Option Nat} {fd fw fr : Nat → Int32} {lst dm : Int32} {pl pn : Bool} {len : Int64} {ns : List Nat} {Cp C : va_W} (hp : IsPl D a fm fd fw fr (nI n) lst Cp) (ht : IsTool D t dm pl (ns.map nI) [] len pn ch co C) (hn : n ≤ 8) (hns : ns.length = n) (hn31 : ∀ x ∈ ns, x < 1000)
    (hr : rmOk R 4 ((capN co 0 (picks n fw fr n 0 8).length - co) / 8) (2 * (capN co 0 (picks n fw fr n 0 8).length - co))) :
    Ct l mPl_planLeast D R [.ref a, .ref t] [Cp, C] (fun v S => v = none ∧ ∃ Cp' C' lst', S = [Cp', C'] ∧ IsPl D a fm fd fw fr (nI n) lst' Cp' ∧ IsTool D t dm pl (ns.map nI) ((picks n fw fr n 0 8).map (fun b => nI (ns.getD b 0))) (pacc fw len 8 (picks n fw fr n 0 8)) pn ch (capN co 0 (picks n fw fr n 0 8).length) C') := by
  obtain ⟨r1, r2, r3, r4⟩ := hr
  generalize hall : picks n fw fr n 0 8 = P at r3 r4 ⊢
  refine Ct.of rfl (by decide) tkPl_planLeast (Nat.le_of_ble_eq_true rfl) (fun A => ?_)
  generalize hQ : (fun (v : Option Value) S => v = none ∧ ∃ Cp' C' lst', S = [Cp', C'] ∧ IsPl D a fm fd fw fr (nI n) lst' Cp' ∧ IsTool D t dm pl (ns.map nI) (P.map (fun b => nI (ns.getD b 0))) (pacc fw len 8 P) pn ch (capN co 0 P.length) C') = Q
  have loop : ∀ (k i s la : Nat), i + k = n → s < 256 → la ≤ 8 → ∀ (ps : List Nat) (cp : Nat) (v : Int64) (lst' : Int32) (Cp' C' : va_W), IsPl D a fm fd fw fr (nI n) lst' Cp' → IsTool D t dm pl (ns.map nI) (ps.map (fun b => nI (ns.getD b 0))) v pn ch cp C' → ps.length = i → P = ps ++ picks n fw fr k s la → pacc fw len 8 P = pacc fw v la (picks n fw fr k s la) → co ≤ cp → capN co 0 P.length = capN cp i (picks n fw fr k s la).length → ∀ lv9 : List (Nat × Value), (∀ q ∈ [(4, Value.int (nI i)), (3, .int (nI la)), (2, .int (nI s)), (0, .ref a), (1, .ref t)], q ∈ lv9) →
      Ex l mPl_planLeast D R A (xQ D A Q) R.cells R.slots 8 lv9 [] [Cp', C'] (0 + (cp - co) / 8) (0 + 2 * (cp - co)) := by
    intro k
    induction k with
    | zero =>
      intro i s la hik hs hla ps cp v lst' Cp' C' hp' ht' hpl hP hacc hco hcap lv9 hlv
      obtain ⟨og, mi, dn, wy, rs, rfl⟩ := id hp'
      refine Ex.lv hlv ?_
      repeat (first | refine Ex.p rfl ?_ | refine Ex.ldc rfl ?_ | refine Ex.ldc2 rfl ?_ | refine Ex.gf 0 0 rfl rfl rfl ?_)
      refine Ex.br rfl (fun _ => ?_) (fun c => absurd (by rw [nI_leI (by omega) (by omega)]; omega) c)
      rw [show picks n fw fr 0 s la = [] from rfl] at hP hacc hcap
      rw [List.append_nil] at hP
      have hacc : pacc fw len 8 P = v := hacc
      have hcap : capN co 0 P.length = cp := hcap
      refine Ex.vret rfl rfl (by omega) (by omega) rfl ?_
      subst hQ
      rw [hacc, hcap, hP]
      exact ⟨rfl, _, _, lst', rfl, hp', ht'⟩
    | succ k ih =>
      intro i s la hik hs hla ps cp v lst' Cp' C' hp' ht' hpl hP hacc hco hcap lv9 hlv
      obtain ⟨og, mi, dn, wy, rs, rfl⟩ := id hp'
      have hge := capN_ge (picks n fw fr (k + 1) s la).length cp i
      refine Ex.lv hlv ?_
      repeat (first | refine Ex.p rfl ?_ | refine Ex.ldc rfl ?_ | refine Ex.ldc2 rfl ?_ | refine Ex.gf 0 0 rfl rfl rfl ?_)
      refine Ex.br rfl (fun c => absurd (by rw [nI_leI (by omega) (by omega)] at c; exact c) (by omega)) (fun _ => ?_)
      refine Ex.p rfl ?_
      refine Ex.p rfl ?_
      refine Ex.p rfl ?_
      refine Ex.cv (Mc := mPl_bestNext) (Rc := rm 0 0 0) (As := [.int (nI s), .int (nI la)]) (rest := []) (Sr := [C']) (ic := 0) (jc := 0) (ci := 4) [0] [1] (ct_Pl_bestNext hp' hn hs hla) rfl lk_4_86 lcPl_bestNext rfl rfl rfl rfl rfl (by decide) rfl rfl rfl (by decide) ⟨by dsimp only [rm]; omega, by show 8 + (7 + 11) + 0 ≤ R.locals; omega⟩ (Nat.zero_le _) (by dsimp only [rm]; omega) (by dsimp only [rm]; omega) ?_
      rintro w S1 ⟨rfl, Cp2, rfl, hp2⟩
      generalize hnf : nfold (fun j => !s.testBit j) (bw fw fr s la) n = nf at hp2 ⊢
      have hpk : picks n fw fr (k + 1) s la = match nf.1 with
          | none => []
          | some b => b :: picks n fw fr k (s ||| 2 ^ b) b := by rw [← hnf]; rfl
      cases ho : nf.1 with
      | none =>
        rw [ho] at hpk
        refine Ex.p rfl ?_
        refine Ex.p rfl ?_
        refine Ex.p rfl ?_
        refine Ex.br rfl (fun c => absurd rfl c) (fun _ => ?_)
        rw [hpk] at hP hacc hcap
        rw [List.append_nil] at hP
        have hacc : pacc fw len 8 P = v := hacc
        have hcap : capN co 0 P.length = cp := hcap
        refine Ex.sub (S' := [Cp2, C']) [1, 0] rfl rfl ?_
        refine Ex.vret rfl rfl (by dsimp only [rm]; omega) (by dsimp only [rm]; omega) rfl ?_
        subst hQ
        rw [hacc, hcap, hP]
        exact ⟨rfl, _, _, _, rfl, hp2, ht'⟩
      | some b =>
        rw [ho] at hpk
        have hbn : b < n := nfold_lt (by rw [hnf]; exact ho)
        have hbi : ¬ bi (some b) = -1 := by rw [bi_m1 (fun b' h => by cases h; omega)]; simp
        obtain ⟨og2, mi2, dn2, wy2, rs2, rfl⟩ := id hp2
        obtain ⟨rh, ro, Ch, Co, rfl, hrh, hro⟩ := id ht'
        obtain ⟨arr, f, rfl, x1, x2, x3, x4, x5, x6⟩ := id hrh
        obtain ⟨ho1, ho2⟩ := bit_or s hs b (by omega)
        rw [hpk] at hP hacc hcap hge
        have hcap : capN co 0 P.length = capN (rcap cp i) (i + 1) (picks n fw fr k (s ||| 2 ^ b) b).length := hcap
        have hge2 := capN_ge (picks n fw fr k (s ||| 2 ^ b) b).length (rcap cp i) (i + 1)
        have hge3 := rcap_ge cp i
        refine Ex.p rfl ?_
        refine Ex.p rfl ?_
        refine Ex.p rfl ?_
        refine Ex.br rfl (fun _ => ?_) (fun c => absurd hbi c)
        repeat (first | refine Ex.p rfl ?_ | refine Ex.ldc rfl ?_ | refine Ex.ldc2 rfl ?_ | refine Ex.gf 0 0 rfl rfl rfl ?_)
        refine Ex.seg (S' := [[(t, .inr (9, [.int dm, .int (b32 pl), .ref rh, .ref ro, .long v, .int (b32 pn)]))], sRow D rh arr ch f 60 (ns.map nI).length, Co, sPl D a og2 mi2 dn2 wy2 rs2 fm fd fw fr (nI n) nf.2]) (by simp) ?_
        refine Ex.cv (Mc := mRo_get) (Rc := rm 0 0 0) (As := [.int (bi (some b))]) (rest := [.ref t]) (Sr := [[(t, .inr (9, [.int dm, .int (b32 pl), .ref rh, .ref ro, .long v, .int (b32 pn)]))], Co, sPl D a og2 mi2 dn2 wy2 rs2 fm fd fw fr (nI n) nf.2]) (ic := 1) (jc := 0) (ci := 5) [1] [0, 2, 3] (ct_Ro_get hrh) rfl lk_4_72 lcRo_get rfl rfl rfl rfl rfl (by decide) rfl rfl rfl (by decide) ⟨by dsimp only [rm]; omega, by show 8 + (2 + 11) + 0 ≤ R.locals; omega⟩ (Nat.le_of_ble_eq_true rfl) (by dsimp only [rm]; omega) (by dsimp only [rm]; omega) ?_
        rintro w S1 ⟨rfl, rfl⟩
        rw [show bi (some b) = nI b from rfl, rget_nI (by omega) (by omega)]
        repeat (first | refine Ex.p rfl ?_ | refine Ex.ldc rfl ?_ | refine Ex.ldc2 rfl ?_ | refine Ex.gf 2 0 rfl rfl rfl ?_)
        rw [show (Int8.ofInt 8).toInt32 = nI 8 from rfl, pk_mul, nI_add]
        refine Ex.ial 2 4 (la * 8 + b) rfl rfl rfl (nI_toInt (by omega)) (by omega) ?_
        refine Ex.sub (S' := [[(t, .inr (9, [.int dm, .int (b32 pl), .ref rh, .ref ro, .long v, .int (b32 pn)]))], sRow D rh arr ch f 60 (ns.map nI).length, Co, sPl D a og2 mi2 dn2 wy2 rs2 fm fd fw fr (nI n) nf.2]) [0, 3, 1, 2] rfl rfl ?_
        refine Ex.seg (S' := [(t, .inr (9, [.int dm, .int (b32 pl), .ref rh, .ref ro, .long v, .int (b32 pn)])) :: (sRow D rh arr ch f 60 (ns.map nI).length ++ Co), sPl D a og2 mi2 dn2 wy2 rs2 fm fd fw fr (nI n) nf.2]) (by simp) ?_
        have hol : (ps.map (fun b => nI (ns.getD b 0))).length = i := by simp [hpl]
        have hct := ct_To_planNext (l := l) (R := rm 3 ((rcap cp (ps.map (fun b => nI (ns.getD b 0))).length - cp) / 8) (2 * (rcap cp (ps.map (fun b => nI (ns.getD b 0))).length - cp))) (x := nI (ns.getD b 0)) (w := fw (la * 8 + b)) ht' (by rw [hol]; omega) (rm_ok _ _ _)
        rw [hol] at hct
        refine Ex.cv (Mc := mTo_planNext) (Rc := rm 3 ((rcap cp i - cp) / 8) (2 * (rcap cp i - cp))) (As := [.int (nI (ns.getD b 0)), .int (fw (la * 8 + b))]) (rest := []) (Sr := [sPl D a og2 mi2 dn2 wy2 rs2 fm fd fw fr (nI n) nf.2]) (ic := 0) (jc := 0) (ci := 9) [0] [1] hct rfl lk_4_93 lcTo_planNext rfl rfl rfl rfl rfl (by decide) rfl rfl rfl (by decide) ⟨by dsimp only [rm]; omega, by show 8 + (3 + 11) + 120 ≤ R.locals; omega⟩ (Nat.zero_le _) (by dsimp only [rm]; omega) (by dsimp only [rm]; omega) ?_
        rintro w S1 ⟨rfl, C2, rfl, hC2⟩
        refine Ex.p rfl ?_
        refine Ex.p rfl ?_
        refine Ex.p rfl ?_
        refine Ex.p rfl ?_
        refine Ex.p rfl ?_
        rw [ho1]
        refine Ex.p rfl ?_
        refine Ex.p rfl ?_
        refine Ex.p rfl ?_
        refine Ex.p rfl ?_
        refine Ex.p rfl ?_
        rw [i_add1]
        refine Ex.more (k' := 0 + (rcap cp i - co) / 8) (n' := 0 + 2 * (rcap cp i - co)) (by dsimp only [rm]; omega) (by dsimp only [rm]; omega) ?_
        refine Ex.is [0, 1, 2, 4, 5] rfl rfl ?_
        refine ih (i + 1) (s ||| 2 ^ b) b (by omega) ho2 (by omega) (ps ++ [b]) (rcap cp i) (v + (fw (la * 8 + b)).toInt64) nf.2 _ C2 hp2 ?_ (by simp [hpl]) ?_ hacc (by omega) hcap _ (fun q h => h)
        · rw [List.map_append]; exact hC2
        · rw [hP, List.append_assoc]; rfl
  obtain ⟨og, mi, dn, wy, rs, rfl⟩ := id hp
  refine Ex.more (k' := 0 + (co - co) / 8) (n' := 0 + 2 * (co - co)) (Nat.zero_le _) (Nat.zero_le _) ?_
  refine Ex.p rfl ?_
  refine Ex.p rfl ?_
  refine Ex.p rfl ?_
  refine Ex.p rfl ?_
  refine Ex.p rfl ?_
  refine Ex.p rfl ?_
  exact loop n 0 0 8 (by omega) (by omega) (by omega) [] co len lst _ C hp ht rfl (by rw [hall]; rfl) (by rw [hall]) (Nat.le_refl _) (by rw [hall]) _ (fun q h => h)
end LE
end
section
/-! Planner: planNearest -/
def npk (n : Nat) (mv : Nat → HV) : Nat → (Nat → Int32) → HV → List (Nat × Int32)
  | 0, _, _ => []
  | k + 1, fd, g => match (nfold (fun j => decide (fd j = 0)) (fun j => hway g (mv j)) n).1 with
    | none => []
    | some b => (b, (nfold (fun j => decide (fd j = 0)) (fun j => hway g (mv j)) n).2) :: npk n mv k (upd fd b 1) (mv b)
def nacc : Int64 → List (Nat × Int32) → Int64
  | v, [] => v
  | v, b :: bs => nacc (v + b.2.toInt64) bs
section NE
variable {l : Launch} {D : xD} {R : Room}
theorem ct_Pl_planNearest {a n t ch co : Nat} {fm : Nat → Option Nat} {fd fw fr : Nat → Int32} {lst dm : Int32} {pl pn : Bool} {len : Int64} {ns : List Nat} {mv : Nat → HV} {Cp C Hs : va_W} (hp : IsPl D a fm fd fw fr (nI n) lst Cp) (ht : IsTool D t dm pl (ns.map nI) [] len pn ch co C) (hn : n ≤ 60) (hns : ns.length = n) (hm : ∀ j, j < n → ∃ (b i : Nat), fm j = some b ∧ Hs[i]? = some (cHit b (mv j)))
    (hr : rmOk R 4 ((capN co 0 (npk n mv n fd ogv).length - co) / 8) (2 * (capN co 0 (npk n mv n fd ogv).length - co))) :
    Ct l mPl_planNearest D R [.ref a, .ref t] [Cp, C, Hs] (fun v S => v = none ∧ ∃ Cp' C' fd' lst', S = [Cp', C', Hs] ∧ IsPl D a fm fd' fw fr (nI n) lst' Cp' ∧ IsTool D t dm pl (ns.map nI) ((npk n mv n fd ogv).map (fun b => nI (ns.getD b.1 0))) (nacc len (npk n mv n fd ogv)) pn ch (capN co 0 (npk n mv n fd ogv).length) C') := by
  obtain ⟨r1, r2, r3, r4⟩ := hr
  generalize hall : npk n mv n fd ogv = P at r3 r4 ⊢
  refine Ct.of rfl (by decide) tkPl_planNearest (Nat.le_of_ble_eq_true rfl) (fun A => ?_)
  generalize hQ : (fun (v : Option Value) S => v = none ∧ ∃ Cp' C' fd' lst', S = [Cp', C', Hs] ∧ IsPl D a fm fd' fw fr (nI n) lst' Cp' ∧ IsTool D t dm pl (ns.map nI) (P.map (fun b => nI (ns.getD b.1 0))) (nacc len P) pn ch (capN co 0 P.length) C') = Q
  have loop : ∀ (k i : Nat), i + k = n → ∀ (og mi dn wy rs ah : Nat) (g : HV) (fd' : Nat → Int32) (ps : List (Nat × Int32)) (cp : Nat) (v : Int64) (lst' : Int32) (C' : va_W), ((∃ j : Nat, Hs[j]? = some (cHit ah g)) ∨ (ah = og ∧ g = ogv)) → IsTool D t dm pl (ns.map nI) (ps.map (fun b => nI (ns.getD b.1 0))) v pn ch cp C' → ps.length = i → P = ps ++ npk n mv k fd' g → nacc len P = nacc v (npk n mv k fd' g) → co ≤ cp → capN co 0 P.length = capN cp i (npk n mv k fd' g).length → ∀ lv9 : List (Nat × Value), (∀ q ∈ [(3, Value.int (nI i)), (2, .ref ah), (0, .ref a), (1, .ref t)], q ∈ lv9) →
      Ex l mPl_planNearest D R A (xQ D A Q) R.cells R.slots 7 lv9 [] [sPl D a og mi dn wy rs fm fd' fw fr (nI n) lst', C', Hs] (0 + (cp - co) / 8) (0 + 2 * (cp - co)) := by
    intro k
    induction k with
    | zero =>
      intro i hik og mi dn wy rs ah g fd' ps cp v lst' C' hloc ht' hpl hP hacc hco hcap lv9 hlv
      refine Ex.lv hlv ?_
      repeat (first | refine Ex.p rfl ?_ | refine Ex.ldc rfl ?_ | refine Ex.ldc2 rfl ?_ | refine Ex.gf 0 0 rfl rfl rfl ?_)
      refine Ex.br rfl (fun _ => ?_) (fun c => absurd (by rw [nI_leI (by omega) (by omega)]; omega) c)
      rw [show npk n mv 0 fd' g = [] from rfl] at hP hacc hcap
      rw [List.append_nil] at hP
      have hacc : nacc len P = v := hacc
      have hcap : capN co 0 P.length = cp := hcap
      refine Ex.vret rfl rfl (by omega) (by omega) rfl ?_
      subst hQ
      rw [hacc, hcap, hP]
      exact ⟨rfl, _, _, fd', lst', rfl, ⟨og, mi, dn, wy, rs, rfl⟩, ht'⟩
    | succ k ih =>
      intro i hik og mi dn wy rs ah g fd' ps cp v lst' C' hloc ht' hpl hP hacc hco hcap lv9 hlv
      have hge := capN_ge (npk n mv (k + 1) fd' g).length cp i
      refine Ex.lv hlv ?_
      repeat (first | refine Ex.p rfl ?_ | refine Ex.ldc rfl ?_ | refine Ex.ldc2 rfl ?_ | refine Ex.gf 0 0 rfl rfl rfl ?_)
      refine Ex.br rfl (fun c => absurd (by rw [nI_leI (by omega) (by omega)] at c; exact c) (by omega)) (fun _ => ?_)
      refine Ex.p rfl ?_
      refine Ex.p rfl ?_
      have hnear : Ct l mPl_nearest D (rm 2 0 0) [.ref a, .ref ah] [sPl D a og mi dn wy rs fm fd' fw fr (nI n) lst', Hs] (fun v S => v = some (.int (bi (nfold (fun j => decide (fd' j = 0)) (fun j => hway g (mv j)) n).1)) ∧ ∃ Cp', S = [Cp', Hs] ∧ IsPl D a fm fd' fw fr (nI n) (nfold (fun j => decide (fd' j = 0)) (fun j => hway g (mv j)) n).2 Cp') := by
        rcases hloc with ⟨j, hj⟩ | ⟨rfl, rfl⟩
        · exact ct_Pl_nearest (i0 := 1) (j0 := j) ⟨og, mi, dn, wy, rs, rfl⟩ hn hm rfl hj (fun h => by cases h) (rm_ok _ _ _)
        · exact ct_Pl_nearest (i0 := 0) (j0 := 1) ⟨_, mi, dn, wy, rs, rfl⟩ hn hm rfl rfl (fun _ => rfl) (rm_ok _ _ _)
      refine Ex.cv (Mc := mPl_nearest) (Rc := rm 2 0 0) (As := [.ref ah]) (rest := []) (Sr := [C']) (ic := 0) (jc := 0) (ci := 4) [0, 2] [1] hnear rfl lk_4_97 lcPl_nearest rfl rfl rfl rfl rfl (by decide) rfl rfl rfl (by decide) ⟨by dsimp only [rm]; omega, by show 8 + (5 + 11) + 80 ≤ R.locals; omega⟩ (Nat.zero_le _) (by dsimp only [rm]; omega) (by dsimp only [rm]; omega) ?_
      rintro w S1 ⟨rfl, Cp2, rfl, hp2⟩
      generalize hnf : nfold (fun j => decide (fd' j = 0)) (fun j => hway g (mv j)) n = nf at hp2 ⊢
      have hpk : npk n mv (k + 1) fd' g = match nf.1 with
          | none => []
          | some b => (b, nf.2) :: npk n mv k (upd fd' b 1) (mv b) := by rw [← hnf]; rfl
      cases ho : nf.1 with
      | none =>
        rw [ho] at hpk
        refine Ex.p rfl ?_
        refine Ex.p rfl ?_
        refine Ex.p rfl ?_
        refine Ex.br rfl (fun c => absurd rfl c) (fun _ => ?_)
        rw [hpk] at hP hacc hcap
        rw [List.append_nil] at hP
        have hacc : nacc len P = v := hacc
        have hcap : capN co 0 P.length = cp := hcap
        refine Ex.sub (S' := [Cp2, C', Hs]) [1, 0, 2] rfl rfl ?_
        refine Ex.vret rfl rfl (by dsimp only [rm]; omega) (by dsimp only [rm]; omega) rfl ?_
        subst hQ
        rw [hacc, hcap, hP]
        exact ⟨rfl, _, _, _, _, rfl, hp2, ht'⟩
      | some b =>
        rw [ho] at hpk
        have hbn : b < n := nfold_lt (by rw [hnf]; exact ho)
        have hbi : ¬ bi (some b) = -1 := by rw [bi_m1 (fun b' h => by cases h; omega)]; simp
        obtain ⟨og2, mi2, dn2, wy2, rs2, rfl⟩ := id hp2
        obtain ⟨rh, ro, Ch, Co, rfl, hrh, hro⟩ := id ht'
        obtain ⟨arr, f, rfl, x1, x2, x3, x4, x5, x6⟩ := id hrh
        obtain ⟨hb, ib, ehb, hat⟩ := hm b hbn
        rw [hpk] at hP hacc hcap hge
        have hcap : capN co 0 P.length = capN (rcap cp i) (i + 1) (npk n mv k (upd fd' b 1) (mv b)).length := hcap
        have hge2 := capN_ge (npk n mv k (upd fd' b 1) (mv b)).length (rcap cp i) (i + 1)
        have hge3 := rcap_ge cp i
        refine Ex.p rfl ?_
        refine Ex.p rfl ?_
        refine Ex.p rfl ?_
        refine Ex.br rfl (fun _ => ?_) (fun c => absurd hbi c)
        repeat (first | refine Ex.p rfl ?_ | refine Ex.ldc rfl ?_ | refine Ex.ldc2 rfl ?_ | refine Ex.gf 0 0 rfl rfl rfl ?_)
        refine Ex.seg (S' := [[(t, .inr (9, [.int dm, .int (b32 pl), .ref rh, .ref ro, .long v, .int (b32 pn)]))], sRow D rh arr ch f 60 (ns.map nI).length, Co, sPl D a og2 mi2 dn2 wy2 rs2 fm fd' fw fr (nI n) nf.2, Hs]) (by simp) ?_
        refine Ex.cv (Mc := mRo_get) (Rc := rm 0 0 0) (As := [.int (bi (some b))]) (rest := [.ref t]) (Sr := [[(t, .inr (9, [.int dm, .int (b32 pl), .ref rh, .ref ro, .long v, .int (b32 pn)]))], Co, sPl D a og2 mi2 dn2 wy2 rs2 fm fd' fw fr (nI n) nf.2, Hs]) (ic := 1) (jc := 0) (ci := 5) [1] [0, 2, 3, 4] (ct_Ro_get hrh) rfl lk_4_72 lcRo_get rfl rfl rfl rfl rfl (by decide) rfl rfl rfl (by decide) ⟨by dsimp only [rm]; omega, by show 8 + (2 + 11) + 0 ≤ R.locals; omega⟩ (Nat.le_of_ble_eq_true rfl) (by dsimp only [rm]; omega) (by dsimp only [rm]; omega) ?_
        rintro w S1 ⟨rfl, rfl⟩
        rw [show bi (some b) = nI b from rfl, rget_nI (by omega) (by omega)]
        repeat (first | refine Ex.p rfl ?_ | refine Ex.ldc rfl ?_ | refine Ex.ldc2 rfl ?_ | refine Ex.gf 2 0 rfl rfl rfl ?_)
        refine Ex.sub (S' := [[(t, .inr (9, [.int dm, .int (b32 pl), .ref rh, .ref ro, .long v, .int (b32 pn)]))], sRow D rh arr ch f 60 (ns.map nI).length, Co, sPl D a og2 mi2 dn2 wy2 rs2 fm fd' fw fr (nI n) nf.2, Hs]) [0, 4, 1, 2, 3] rfl rfl ?_
        refine Ex.seg (S' := [(t, .inr (9, [.int dm, .int (b32 pl), .ref rh, .ref ro, .long v, .int (b32 pn)])) :: (sRow D rh arr ch f 60 (ns.map nI).length ++ Co), sPl D a og2 mi2 dn2 wy2 rs2 fm fd' fw fr (nI n) nf.2, Hs]) (by simp) ?_
        have hol : (ps.map (fun b => nI (ns.getD b.1 0))).length = i := by simp [hpl]
        have hct := ct_To_planNext (l := l) (R := rm 3 ((rcap cp (ps.map (fun b => nI (ns.getD b.1 0))).length - cp) / 8) (2 * (rcap cp (ps.map (fun b => nI (ns.getD b.1 0))).length - cp))) (x := nI (ns.getD b 0)) (w := nf.2) ht' (by rw [hol]; omega) (rm_ok _ _ _)
        rw [hol] at hct
        refine Ex.cv (Mc := mTo_planNext) (Rc := rm 3 ((rcap cp i - cp) / 8) (2 * (rcap cp i - cp))) (As := [.int (nI (ns.getD b 0)), .int nf.2]) (rest := []) (Sr := [sPl D a og2 mi2 dn2 wy2 rs2 fm fd' fw fr (nI n) nf.2, Hs]) (ic := 0) (jc := 0) (ci := 9) [0] [1, 2] hct rfl lk_4_93 lcTo_planNext rfl rfl rfl rfl rfl (by decide) rfl rfl rfl (by decide) ⟨by dsimp only [rm]; omega, by show 8 + (3 + 11) + 120 ≤ R.locals; omega⟩ (Nat.zero_le _) (by dsimp only [rm]; omega) (by dsimp only [rm]; omega) ?_
        rintro w S1 ⟨rfl, C2, rfl, hC2⟩
        repeat (first | refine Ex.p rfl ?_ | refine Ex.ldc rfl ?_ | refine Ex.ldc2 rfl ?_ | refine Ex.gf 0 0 rfl rfl rfl ?_)
        refine Ex.zas 0 3 b rfl rfl rfl (nI_toInt (by omega)) (by omega) (Or.inr rfl) ?_
        repeat (first | refine Ex.p rfl ?_ | refine Ex.ldc rfl ?_ | refine Ex.ldc2 rfl ?_ | refine Ex.gf 0 0 rfl rfl rfl ?_)
        refine Ex.aal 0 2 b 4 rfl rfl rfl rfl (nI_toInt (by omega)) (by omega) ?_
        rw [ehb]
        refine Ex.p rfl ?_
        refine Ex.p rfl ?_
        refine Ex.p rfl ?_
        rw [i_add1]
        refine Ex.sub (S' := [sPl D a og2 mi2 dn2 wy2 rs2 fm (upd fd' b 1) fw fr (nI n) nf.2, C2, Hs]) [0, 2, 1] rfl rfl ?_
        refine Ex.more (k' := 0 + (rcap cp i - co) / 8) (n' := 0 + 2 * (rcap cp i - co)) (by dsimp only [rm]; omega) (by dsimp only [rm]; omega) ?_
        refine Ex.is [0, 1, 3, 4] rfl rfl ?_
        refine ih (i + 1) (by omega) og2 mi2 dn2 wy2 rs2 hb (mv b) (upd fd' b 1) (ps ++ [(b, nf.2)]) (rcap cp i) (v + nf.2.toInt64) nf.2 C2 (Or.inl ⟨ib, hat⟩) ?_ (by simp [hpl]) ?_ hacc (by omega) hcap _ (fun q h => h)
        · rw [List.map_append]; exact hC2
        · rw [hP, List.append_assoc]; rfl
  obtain ⟨og, mi, dn, wy, rs, rfl⟩ := id hp
  refine Ex.more (k' := 0 + (co - co) / 8) (n' := 0 + 2 * (co - co)) (Nat.zero_le _) (Nat.zero_le _) ?_
  refine Ex.p rfl ?_
  refine Ex.gf 0 0 rfl rfl rfl ?_
  refine Ex.p rfl ?_
  refine Ex.p rfl ?_
  refine Ex.p rfl ?_
  exact loop n 0 (by omega) og mi dn wy rs og ogv fd [] co len lst C (Or.inr ⟨rfl, rfl⟩) ht rfl (by rw [hall]; rfl) (by rw [hall]) (Nat.le_refl _) (by rw [hall]) _ (fun q h => h)
end NE
end
section
/-! Planner: plan -/
theorem picks_len {n : Nat} {fw fr : Nat → Int32} : ∀ {k s la : Nat}, (picks n fw fr k s la).length ≤ k
  | 0, _, _ => Nat.le_refl _
  | k + 1, s, la => by
    unfold picks
    split
    · simp
    · simp
      exact picks_len
theorem npk_len {n : Nat} {mv : Nat → HV} : ∀ {k : Nat} {fd : Nat → Int32} {g : HV}, (npk n mv k fd g).length ≤ k
  | 0, _, _ => Nat.le_refl _
  | k + 1, fd, g => by
    unfold npk
    split
    · simp
    · simp
      exact npk_len
theorem nfold_ok {ok ok' : Nat → Bool} {w : Nat → Int32} : ∀ {n : Nat}, (∀ j, j < n → ok j = ok' j) → nfold ok w n = nfold ok' w n
  | 0, _ => rfl
  | n + 1, h => by
    have ih := nfold_ok (w := w) (n := n) (fun j hj => h j (by omega))
    unfold nfold
    rw [ih, h n (by omega)]
theorem npk_congr {n : Nat} {mv : Nat → HV} : ∀ {k : Nat} {fd fd' : Nat → Int32} {g : HV}, (∀ j, j < n → fd j = fd' j) → npk n mv k fd g = npk n mv k fd' g
  | 0, _, _, _, _ => rfl
  | k + 1, fd, fd', g, h => by
    have e : nfold (fun j => decide (fd j = 0)) (fun j => hway g (mv j)) n = nfold (fun j => decide (fd' j = 0)) (fun j => hway g (mv j)) n := nfold_ok (fun j hj => by rw [h j hj])
    unfold npk
    rw [e]
    split
    · rfl
    · rename_i b hb
      congr 1
      refine npk_congr fun j hj => ?_
      unfold upd
      split
      · rfl
      · exact h j hj
/-- the order of n hits, by their places in the tool's row, and its length -/
def TOrd (n : Nat) (mv : Nat → HV) (ps : List Nat) (len : Int64) : Prop :=
  (n ≤ 8 → ∃ fw fr, WaysOK n mv fw ∧ RestOK n fw fr ∧ ps = picks n fw fr n 0 8 ∧ len = pacc fw 0 8 ps) ∧ (8 < n → ps = (npk n mv n (fun _ => 0) ogv).map (fun b => b.1) ∧ len = nacc 0 (npk n mv n (fun _ => 0) ogv))
/-- the j-th of the hits numbered ns -/
def mvO (hs : List (Nat × HV)) (ns : List Nat) (j : Nat) : HV := ((hs[ns.getD j 0]?).map (fun h => h.2)).getD ogv
section PA
variable {l : Launch} {D : xD} {R : Room}
theorem ct_Pl_plan {a d ch co : Nat} {fm : Nat → Option Nat} {fd fw fr : Nat → Int32} {cnt lst dm : Int32} {pl pn : Bool} {os : List Int32} {len : Int64} {ts : List TV} {hs : List (Nat × HV)} {ns : List Nat} {t : Nat} {Cp Cd T Hs C : va_W} (hp : IsPl D a fm fd fw fr cnt lst Cp) (hd : IsDr D d ts hs Cd T Hs) (ht : IsTool D t dm pl (ns.map nI) os len pn ch co C) (hns : ∀ n ∈ ns, n < hs.length) (hn60 : ns.length ≤ 60) (hco : co ≤ 128) (hr : rmOk R 5 (if pn = true then 0 else 15) (if pn = true then 0 else 240)) :
    Ct l mPl_plan D R [.ref a, .ref d, .ref t] [Cp, Cd, C, Hs] (fun v S => v = none ∧ ∃ Cp' C' fm' fd' fw' fr' cnt' lst', S = [Cp', Cd, C', Hs] ∧ IsPl D a fm' fd' fw' fr' cnt' lst' Cp' ∧ ((pn = true ∧ C' = C) ∨ (pn = false ∧ ∃ ps len' co', TOrd ns.length (mvO hs ns) ps len' ∧ co' ≤ 128 ∧ IsTool D t dm pl (ns.map nI) (ps.map (fun b => nI (ns.getD b 0))) len' true ch co' C'))) := by
  obtain ⟨r1, r2, r3, r4⟩ := hr
  obtain ⟨og, mi, dn, wy, rs, rfl⟩ := id hp
  obtain ⟨rh, ro, Ch, Co, rfl, hrh, hro⟩ := id ht
  have hhl : hs.length ≤ 60 := by obtain ⟨_, _, _, _, _, _, _, _, _, _, q⟩ := hd; exact q
  have hHs : Hs = sHs hs := by obtain ⟨_, _, _, _, _, _, q, _⟩ := hd; exact q
  refine Ct.of rfl (by decide) tkPl_plan (Nat.le_of_ble_eq_true rfl) (fun A => ?_)
  refine Ex.p rfl ?_
  refine Ex.gf 2 0 rfl rfl rfl ?_
  cases pn with
  | true =>
    refine Ex.br rfl (fun c => absurd c (by decide)) (fun _ => ?_)
    exact Ex.vret rfl rfl (Nat.zero_le _) (Nat.zero_le _) rfl ⟨rfl, _, _, _, _, _, _, _, _, rfl, ⟨og, mi, dn, wy, rs, rfl⟩, Or.inl ⟨rfl, rfl⟩⟩
  | false =>
    have r3 : 15 ≤ R.cells := r3
    have r4 : 240 ≤ R.slots := r4
    refine Ex.br rfl (fun _ => ?_) (fun c => absurd rfl c)
    refine Ex.p rfl ?_
    refine Ex.cv (Mc := mTo_beginPlan) (Rc := rm 1 0 0) (As := []) (rest := []) (Sr := [sPl D a og mi dn wy rs fm fd fw fr cnt lst, Cd, Hs]) (ic := 2) (jc := 0) (ci := 9) [2] [0, 1, 3] (ct_To_beginPlan ht (rm_ok _ _ _)) rfl lk_4_41 lcTo_beginPlan rfl rfl rfl rfl rfl (by decide) rfl rfl rfl (by decide) ⟨by dsimp only [rm]; omega, by show 8 + (1 + 11) + 40 ≤ R.locals; omega⟩ (Nat.zero_le _) (Nat.zero_le _) (Nat.zero_le _) ?_
    rintro v S1 ⟨rfl, C1, rfl, hC1⟩
    refine Ex.p rfl ?_
    refine Ex.p rfl ?_
    refine Ex.p rfl ?_
    refine Ex.cv (Mc := mPl_gather) (Rc := rm 1 0 0) (As := [.ref d, .ref t]) (rest := []) (Sr := []) (ic := 0) (jc := 0) (ci := 4) [0, 1, 3, 2] [] (ct_Pl_gather hp hd hC1 hns hn60 (rm_ok _ _ _)) rfl lk_4_44 lcPl_gather rfl rfl rfl rfl rfl (by decide) rfl rfl rfl (by decide) ⟨by dsimp only [rm]; omega, by show 8 + (5 + 11) + 40 ≤ R.locals; omega⟩ (Nat.zero_le _) (Nat.zero_le _) (Nat.zero_le _) ?_
    rintro v S1 ⟨rfl, Cp2, fm2, fd2, rfl, hp2, hfm, hfd⟩
    obtain ⟨og2, mi2, dn2, wy2, rs2, rfl⟩ := id hp2
    have hm : ∀ j, j < ns.length → ∃ (b i : Nat), fm2 j = some b ∧ Hs[i]? = some (cHit b (mvO hs ns j)) := by
      intro j hj
      have hnj : ns[j]? = some ns[j] := List.getElem?_eq_getElem hj
      have hlt := hns _ (List.getElem_mem hj)
      have hg : hs[ns[j]]? = some hs[ns[j]] := List.getElem?_eq_getElem hlt
      refine ⟨hs[ns[j]].1, ns[j], ?_, ?_⟩
      · rw [hfm j _ hnj, hg]; rfl
      · rw [hHs, sHs_at hg, mvO, List.getD_eq_getElem?_getD, hnj]
        show _ = some (cHit _ (((hs[ns[j]]?).map (fun h => h.2)).getD ogv))
        rw [hg]
        rfl
    refine Ex.p rfl ?_
    refine Ex.gf 0 0 rfl rfl rfl ?_
    refine Ex.p rfl ?_
    refine Ex.br rfl (fun c1 => ?_) (fun c1 => ?_)
    · have c1 : nI 8 < nI ns.length := c1
      rw [nI_ltI (by omega) (by omega)] at c1
      have hcap := capN_le (npk ns.length (mvO hs ns) ns.length fd2 ogv).length co 0 128 hco (by have := npk_len (n := ns.length) (mv := mvO hs ns) (k := ns.length) (fd := fd2) (g := ogv); omega)
      have hcg := capN_ge (npk ns.length (mvO hs ns) ns.length fd2 ogv).length co 0
      have hnpk : npk ns.length (mvO hs ns) ns.length fd2 ogv = npk ns.length (mvO hs ns) ns.length (fun _ => 0) ogv := npk_congr hfd
      refine Ex.p rfl ?_
      refine Ex.p rfl ?_
      obtain ⟨rh1, ro1, Ch1, Co1, eC1, -⟩ := id hC1
      have hco8 : 8 ≤ co := by obtain ⟨_, _, _, _, _, q, _⟩ := hro; exact q
      refine Ex.cv (Mc := mPl_planNearest) (Rc := rm 4 ((capN co 0 (npk ns.length (mvO hs ns) ns.length fd2 ogv).length - co) / 8) (2 * (capN co 0 (npk ns.length (mvO hs ns) ns.length fd2 ogv).length - co))) (As := [.ref t]) (rest := []) (Sr := [Cd]) (ic := 0) (jc := 0) (ci := 4) [0, 2, 3] [1] (ct_Pl_planNearest hp2 hC1 hn60 rfl hm (rm_ok _ _ _)) rfl lk_4_62 lcPl_planNearest rfl rfl rfl rfl rfl (by decide) rfl rfl rfl (by decide) ⟨by dsimp only [rm]; omega, by show 8 + (5 + 11) + 160 ≤ R.locals; omega⟩ (Nat.zero_le _) (by dsimp only [rm]; omega) (by dsimp only [rm]; omega) ?_
      rintro v S1 ⟨rfl, Cp3, C3, fd3, lst3, rfl, hp3, hC3⟩
      refine Ex.sub (S' := [Cp3, Cd, C3, Hs]) [1, 0, 2, 3] rfl rfl ?_
      refine Ex.vret rfl rfl (by dsimp only [rm]; omega) (by dsimp only [rm]; omega) rfl ⟨rfl, _, _, _, _, _, _, _, _, rfl, hp3, Or.inr ⟨rfl, (npk ns.length (mvO hs ns) ns.length fd2 ogv).map (fun b => b.1), nacc 0 (npk ns.length (mvO hs ns) ns.length fd2 ogv), _, ⟨fun q => by omega, fun _ => ⟨by rw [hnpk], by rw [hnpk]⟩⟩, hcap, ?_⟩⟩
      rw [List.map_map]
      exact hC3
    · have c1 : ¬ nI 8 < nI ns.length := c1
      rw [nI_ltI (by omega) (by omega)] at c1
      refine Ex.p rfl ?_
      refine Ex.cv (Mc := mPl_measureWays) (Rc := rm 2 0 0) (As := []) (rest := []) (Sr := [Cd, C1]) (ic := 0) (jc := 0) (ci := 4) [0, 3] [1, 2] (ct_Pl_measureWays hp2 (by omega) hm (rm_ok _ _ _)) rfl lk_4_52 lcPl_measureWays rfl rfl rfl rfl rfl (by decide) rfl rfl rfl (by decide) ⟨by dsimp only [rm]; omega, by show 8 + (3 + 11) + 80 ≤ R.locals; omega⟩ (Nat.zero_le _) (Nat.zero_le _) (Nat.zero_le _) ?_
      rintro v S1 ⟨rfl, Cp3, fw3, rfl, hp3, hw3⟩
      obtain ⟨og3, mi3, dn3, wy3, rs3, rfl⟩ := id hp3
      refine Ex.p rfl ?_
      refine Ex.cv (Mc := mPl_measureRest) (Rc := rm 1 0 0) (As := []) (rest := []) (Sr := [Cd, C1, Hs]) (ic := 2) (jc := 0) (ci := 4) [2] [0, 1, 3] (ct_Pl_measureRest hp3 (by omega) (rm_ok _ _ _)) rfl lk_4_55 lcPl_measureRest rfl rfl rfl rfl rfl (by decide) rfl rfl rfl (by decide) ⟨by dsimp only [rm]; omega, by show 8 + (3 + 11) + 40 ≤ R.locals; omega⟩ (Nat.zero_le _) (Nat.zero_le _) (Nat.zero_le _) ?_
      rintro v S1 ⟨rfl, Cp4, fr4, lst4, rfl, hp4, hr4⟩
      obtain ⟨og4, mi4, dn4, wy4, rs4, rfl⟩ := id hp4
      have hcap := capN_le (picks ns.length fw3 fr4 ns.length 0 8).length co 0 128 hco (by have := picks_len (n := ns.length) (fw := fw3) (fr := fr4) (k := ns.length) (s := 0) (la := 8); omega)
      have hcg := capN_ge (picks ns.length fw3 fr4 ns.length 0 8).length co 0
      have hco8 : 8 ≤ co := by obtain ⟨_, _, _, _, _, q, _⟩ := hro; exact q
      refine Ex.p rfl ?_
      refine Ex.p rfl ?_
      refine Ex.cv (Mc := mPl_planLeast) (Rc := rm 4 ((capN co 0 (picks ns.length fw3 fr4 ns.length 0 8).length - co) / 8) (2 * (capN co 0 (picks ns.length fw3 fr4 ns.length 0 8).length - co))) (As := [.ref t]) (rest := []) (Sr := [Cd, Hs]) (ic := 3) (jc := 0) (ci := 4) [3, 1] [0, 2] (ct_Pl_planLeast hp4 hC1 (by omega) rfl (fun x hx => by have := hns x hx; omega) (rm_ok _ _ _)) rfl lk_4_58 lcPl_planLeast rfl rfl rfl rfl rfl (by decide) rfl rfl rfl (by decide) ⟨by dsimp only [rm]; omega, by show 8 + (6 + 11) + 160 ≤ R.locals; omega⟩ (Nat.zero_le _) (by dsimp only [rm]; omega) (by dsimp only [rm]; omega) ?_
      rintro v S1 ⟨rfl, Cp5, C5, lst5, rfl, hp5, hC5⟩
      refine Ex.p rfl ?_
      refine Ex.sub (S' := [Cp5, Cd, C5, Hs]) [2, 0, 3, 1] rfl rfl ?_
      exact Ex.vret rfl rfl (by dsimp only [rm]; omega) (by dsimp only [rm]; omega) rfl ⟨rfl, _, _, _, _, _, _, _, _, rfl, hp5, Or.inr ⟨rfl, picks ns.length fw3 fr4 ns.length 0 8, _, _, ⟨fun _ => ⟨fw3, fr4, hw3, hr4, rfl, rfl⟩, fun q => by omega⟩, hcap, hC5⟩⟩
end PA
end
section
/-! the order of a tool's hits is one only -/
theorem rest_uniq {n : Nat} {fw fw' fr fr' : Nat → Int32} (hn : n ≤ 8) (hw : ∀ la nx, la < n → nx < n → fw (la * 8 + nx) = fw' (la * 8 + nx)) (h : RestOK n fw fr) (h' : RestOK n fw' fr') : ∀ (k s la : Nat), 2 ^ n - s ≤ k → 0 < s → s < 2 ^ n → la < n → s.testBit la = true → fr (s * 8 + la) = fr' (s * 8 + la) := by
  have h256 : 2 ^ n ≤ 256 := (sh_all n hn).2.1
  intro k
  induction k with
  | zero => intro s la hk h0 hs; omega
  | succ k ih =>
    intro s la hk h0 hs hla hb
    rw [h s la h0 hs hla hb, h' s la h0 hs hla hb]
    congr 1
    refine nfold_congr fun j hj ho => ?_
    have hbj : s.testBit j = false := by simpa using ho
    have hg := (or_gt s (by omega) j (by omega)).2 hbj
    have hlt : s ||| 2 ^ j < 2 ^ n := Nat.or_lt_two_pow hs (Nat.pow_lt_pow_right (by omega) hj)
    unfold bw
    rw [hw la j hla hj, ih (s ||| 2 ^ j) j (by omega) (by omega) hlt hj (by rw [Nat.testBit_or, Nat.testBit_two_pow_self, Bool.or_true])]
theorem picks_uniq {n : Nat} {fw fw' fr fr' : Nat → Int32} (hn : n ≤ 8) (hw : ∀ la nx, (la < n ∨ la = 8) → nx < n → fw (la * 8 + nx) = fw' (la * 8 + nx)) (hr : ∀ s la, 0 < s → s < 2 ^ n → la < n → s.testBit la = true → fr (s * 8 + la) = fr' (s * 8 + la)) : ∀ (k s la : Nat), s < 2 ^ n → (la < n ∨ la = 8) → picks n fw fr k s la = picks n fw' fr' k s la ∧ (∀ b ∈ picks n fw fr k s la, b < n) := by
  have h256 : 2 ^ n ≤ 256 := (sh_all n hn).2.1
  intro k
  induction k with
  | zero => intro s la _ _; exact ⟨rfl, fun b hb => by cases hb⟩
  | succ k ih =>
    intro s la hs hla
    have e : nfold (fun j => !s.testBit j) (bw fw fr s la) n = nfold (fun j => !s.testBit j) (bw fw' fr' s la) n := by
      refine nfold_congr fun j hj ho => ?_
      have hbj : s.testBit j = false := by simpa using ho
      have hg := (or_gt s (by omega) j (by omega)).2 hbj
      have hlt : s ||| 2 ^ j < 2 ^ n := Nat.or_lt_two_pow hs (Nat.pow_lt_pow_right (by omega) hj)
      unfold bw
      rw [hw la j hla hj, hr (s ||| 2 ^ j) j (by omega) hlt hj (by rw [Nat.testBit_or, Nat.testBit_two_pow_self, Bool.or_true])]
    unfold picks
    rw [e]
    cases hb : (nfold (fun j => !s.testBit j) (bw fw' fr' s la) n).1 with
    | none => exact ⟨rfl, fun b hb => by cases hb⟩
    | some b =>
      have hbn := nfold_lt hb
      have hlt : s ||| 2 ^ b < 2 ^ n := Nat.or_lt_two_pow hs (Nat.pow_lt_pow_right (by omega) hbn)
      obtain ⟨i1, i2⟩ := ih (s ||| 2 ^ b) b hlt (Or.inl hbn)
      refine ⟨by dsimp only; rw [i1], fun c hc => ?_⟩
      rcases List.mem_cons.mp hc with rfl | hc
      · exact hbn
      · exact i2 c hc
theorem npk_mem {n : Nat} {mv : Nat → HV} : ∀ {k : Nat} {fd : Nat → Int32} {g : HV}, ∀ b ∈ npk n mv k fd g, b.1 < n
  | 0, _, _ => fun b hb => by cases hb
  | k + 1, fd, g => by
    unfold npk
    split
    · intro b hb; cases hb
    · rename_i b0 hb0
      intro b hb
      rcases List.mem_cons.mp hb with rfl | hb
      · exact nfold_lt hb0
      · exact npk_mem b hb
theorem pacc_uniq {n : Nat} {fw fw' : Nat → Int32} (hw : ∀ la nx, (la < n ∨ la = 8) → nx < n → fw (la * 8 + nx) = fw' (la * 8 + nx)) : ∀ (ps : List Nat) (v : Int64) (la : Nat), (la < n ∨ la = 8) → (∀ b ∈ ps, b < n) → pacc fw v la ps = pacc fw' v la ps
  | [], _, _, _, _ => rfl
  | b :: bs, v, la, hla, h => by
    unfold pacc
    rw [hw la b hla (h b (by simp))]
    exact pacc_uniq hw bs _ b (Or.inl (h b (by simp))) (fun c hc => h c (by simp [hc]))
theorem ways_uniq {n : Nat} {mv : Nat → HV} {fw fw' : Nat → Int32} (h : WaysOK n mv fw) (h' : WaysOK n mv fw') : ∀ la nx, (la < n ∨ la = 8) → nx < n → fw (la * 8 + nx) = fw' (la * 8 + nx) := by
  intro la nx hla hnx
  rcases hla with hla | rfl
  · rw [h.1 la nx hla hnx, h'.1 la nx hla hnx]
  · exact (h.2 nx hnx).trans (h'.2 nx hnx).symm
theorem TOrd.uniq {n : Nat} {mv : Nat → HV} {ps ps' : List Nat} {len len' : Int64} (h : TOrd n mv ps len) (h' : TOrd n mv ps' len') : ps = ps' ∧ len = len' := by
  by_cases hn : n ≤ 8
  · obtain ⟨fw, fr, h1, h2, rfl, rfl⟩ := h.1 hn
    obtain ⟨fw', fr', h1', h2', rfl, rfl⟩ := h'.1 hn
    have hw := ways_uniq h1 h1'
    have hp : (0 : Nat) < 2 ^ n := Nat.pow_pos (by omega)
    obtain ⟨e, hm⟩ := picks_uniq hn hw (fun s la a b c d => rest_uniq hn (fun la nx p q => hw la nx (Or.inl p) q) h2 h2' (2 ^ n) s la (by omega) a b c d) n 0 8 hp (Or.inr rfl)
    refine ⟨e, ?_⟩
    rw [← e]
    exact pacc_uniq hw _ _ 8 (Or.inr rfl) hm
  · obtain ⟨rfl, rfl⟩ := h.2 (by omega)
    obtain ⟨rfl, rfl⟩ := h'.2 (by omega)
    exact ⟨rfl, rfl⟩
theorem TOrd.mem {n : Nat} {mv : Nat → HV} {ps : List Nat} {len : Int64} (h : TOrd n mv ps len) : (∀ b ∈ ps, b < n) ∧ ps.length ≤ n := by
  by_cases hn : n ≤ 8
  · obtain ⟨fw, fr, h1, h2, rfl, rfl⟩ := h.1 hn
    have hp : (0 : Nat) < 2 ^ n := Nat.pow_pos (by omega)
    exact ⟨(picks_uniq (fw' := fw) (fr' := fr) hn (fun _ _ _ _ => rfl) (fun _ _ _ _ _ _ => rfl) n 0 8 hp (Or.inr rfl)).2, picks_len⟩
  · obtain ⟨rfl, rfl⟩ := h.2 (by omega)
    refine ⟨fun b hb => ?_, ?_⟩
    · obtain ⟨c, hc, rfl⟩ := List.mem_map.mp hb
      exact npk_mem c hc
    · rw [List.length_map]; exact npk_len

noncomputable def ordOf (n : Nat) (mv : Nat → HV) : List Nat × Int64 := @dite _ (∃ p : List Nat × Int64, TOrd n mv p.1 p.2) (Classical.propDecidable _) (fun h => h.choose) (fun _ => ([], 0))
theorem TOrd.of {n : Nat} {mv : Nat → HV} {ps : List Nat} {len : Int64} (h : TOrd n mv ps len) : ordOf n mv = (ps, len) := by
  have hx : ∃ p : List Nat × Int64, TOrd n mv p.1 p.2 := ⟨(ps, len), h⟩
  unfold ordOf
  rw [dif_pos hx]
  obtain ⟨a, b⟩ := TOrd.uniq hx.choose_spec h
  exact Prod.ext a b
theorem ordOf_mem (n : Nat) (mv : Nat → HV) : (∀ b ∈ (ordOf n mv).1, b < n) ∧ (ordOf n mv).1.length ≤ n := by
  by_cases hx : ∃ p : List Nat × Int64, TOrd n mv p.1 p.2
  · obtain ⟨p, hp⟩ := hx
    rw [hp.of]
    exact hp.mem
  · unfold ordOf
    rw [dif_neg hx]
    exact ⟨fun b hb => (by cases hb), Nat.zero_le _⟩
end
section
/-! TextWriter: its row of characters, rules for what is pushed there -/
theorem capN_mono {c n : Nat} : ∀ {a b : Nat}, a ≤ b → capN c n a ≤ capN c n b := by
  intro a b h
  obtain ⟨k, rfl⟩ := Nat.le.dest h
  rw [capN_add]
  exact capN_ge _ _ _
/-- the writer's row: the places as many characters behind an empty row of c0 places make -/
abbrev IsOut (D : xD) (r c0 : Nat) (xs : List Int32) (C : va_W) : Prop := IsRow D r 2600 (capN c0 0 xs.length) xs C
abbrev sTw (w pl r : Nat) (kp : Bool) (kf kt : Int32) : va_W := [(w, .inr (8, [.ref pl, .ref r, .int (b32 kp), .int kf, .int kt]))]
section OU
variable {l : Launch} {D : xD} {R : Room} {M : xM} {A : Nat → Prop} {Q : Array Value → State → Outcome → State → Prop} {mc ms pc ix r c0 cb bk bn N : Nat} {lv : List (Nat × Value)} {rest : List Value} {S Sr : List va_W} {C : va_W} {xs : List Int32}
theorem Ex.oPart {c v : Int32} (ic : Nat) (rs : List Nat) (hrow : IsOut D r c0 xs C) (hcb : cb ≤ capN c0 0 xs.length) (hS : S[ic]? = some C) (hf : xfe M.2.2.2.2.2 pc = some (.invokevirtual ix)) (hlk : Lk M.2.1.cls ix mRo_pushPart) (hc : pk S [ic] [C]) (hrr : pk S rs Sr) (hn2 : va_nd rs = true) (hdis : ∀ i ∈ rs, i ∉ [ic]) (hrm : (rest.map fun v => v.category).sum ≤ 8) (hv : v.toInt.natAbs ≤ 1000000) (hN : (xs ++ part c v).length ≤ N) (hN2 : N + 9 ≤ 2600)
    (h1 : 4 ≤ R.frames) (h2 : 160 ≤ R.locals) (h3 : bk + (capN c0 0 N - cb) / 8 ≤ R.cells) (h4 : bn + 2 * (capN c0 0 N - cb) ≤ R.slots)
    (kk : ∀ C', IsOut D r c0 (xs ++ part c v) C' → Ex l M D R A Q mc ms (pc + 3) lv rest (Sr ++ [C']) (bk + (capN c0 0 (xs ++ part c v).length - cb) / 8) (bn + 2 * (capN c0 0 (xs ++ part c v).length - cb))) :
    Ex l M D R A Q mc ms pc lv (.int v :: .int c :: .ref r :: rest) S (bk + (capN c0 0 xs.length - cb) / 8) (bn + 2 * (capN c0 0 xs.length - cb)) := by
  have hm := capN_mono (c := c0) (n := 0) hN
  have ha := capN_add xs.length (part c v).length c0 0
  rw [Nat.zero_add, ← List.length_append] at ha
  have hg2 := capN_ge (part c v).length (capN c0 0 xs.length) xs.length
  have hl9 : xs.length ≤ N := by rw [List.length_append] at hN; omega
  obtain ⟨arr, f, eC, -⟩ := id hrow
  have hct := ct_Ro_pushPart (l := l) (R := rm 3 ((capN (capN c0 0 xs.length) xs.length (part c v).length - capN c0 0 xs.length) / 8) (2 * (capN (capN c0 0 xs.length) xs.length (part c v).length - capN c0 0 xs.length))) (c := c) (v := v) hrow (by omega) hv (rm_ok _ _ _)
  rw [← ha] at hct hg2
  refine Ex.cv (Mc := mRo_pushPart) (As := [.int c, .int v]) (rest := rest) (Sr := Sr) (ic := ic) (jc := 0) (ci := 5) [ic] rs hct hf hlk lcRo_pushPart rfl hc hrr rfl hn2 hdis hS (by rw [eC]; rfl) rfl (by decide) ⟨h1, by show 8 + (5 + 11) + 120 ≤ R.locals; omega⟩ hrm (by dsimp only [rm]; omega) (by dsimp only [rm]; omega) ?_
  rintro v S1 ⟨rfl, C', rfl, hC'⟩
  exact Ex.more (by dsimp only [rm]; omega) (by dsimp only [rm]; omega) (kk C' hC')
theorem Ex.oText {t : Nat} (ic : Nat) (rs : List Nat) (hrow : IsOut D r c0 xs C) (hcb : cb ≤ capN c0 0 xs.length) (hS : S[ic]? = some C) (hf : xfe M.2.2.2.2.2 pc = some (.invokevirtual ix)) (hlk : Lk M.2.1.cls ix mRo_pushText) (hc : pk S [ic] [C]) (hrr : pk S rs Sr) (hn2 : va_nd rs = true) (hdis : ∀ i ∈ rs, i ∉ [ic]) (hrm : (rest.map fun v => v.category).sum ≤ 8) (ht : t < gSN) (hN : (xs ++ txt t).length ≤ N) (hN2 : N + 9 ≤ 2600)
    (h1 : 5 ≤ R.frames) (h2 : 200 ≤ R.locals) (h3 : bk + (capN c0 0 N - cb) / 8 ≤ R.cells) (h4 : bn + 2 * (capN c0 0 N - cb) ≤ R.slots)
    (kk : ∀ C', IsOut D r c0 (xs ++ txt t) C' → Ex l M D R A Q mc ms (pc + 3) lv rest (Sr ++ [C']) (bk + (capN c0 0 (xs ++ txt t).length - cb) / 8) (bn + 2 * (capN c0 0 (xs ++ txt t).length - cb))) :
    Ex l M D R A Q mc ms pc lv (.ref (D.2.2.2.1 t) :: .ref r :: rest) S (bk + (capN c0 0 xs.length - cb) / 8) (bn + 2 * (capN c0 0 xs.length - cb)) := by
  have hm := capN_mono (c := c0) (n := 0) hN
  have ha := capN_add xs.length (txt t).length c0 0
  rw [Nat.zero_add, ← List.length_append] at ha
  have hg2 := capN_ge (txt t).length (capN c0 0 xs.length) xs.length
  obtain ⟨arr, f, eC, -⟩ := id hrow
  have hct := ct_Ro_pushText (l := l) (R := rm 4 ((capN (capN c0 0 xs.length) xs.length (txt t).length - capN c0 0 xs.length) / 8) (2 * (capN (capN c0 0 xs.length) xs.length (txt t).length - capN c0 0 xs.length))) hrow ht (by rw [List.length_append] at hN; omega) (rm_ok _ _ _)
  rw [← ha] at hct hg2
  refine Ex.cv (Mc := mRo_pushText) (As := [.ref (D.2.2.2.1 t)]) (rest := rest) (Sr := Sr) (ic := ic) (jc := 0) (ci := 5) [ic] rs hct hf hlk lcRo_pushText rfl hc hrr rfl hn2 hdis hS (by rw [eC]; rfl) rfl (by decide) ⟨h1, by show 8 + (3 + 11) + 160 ≤ R.locals; omega⟩ hrm (by dsimp only [rm]; omega) (by dsimp only [rm]; omega) ?_
  rintro v S1 ⟨rfl, C', rfl, hC'⟩
  exact Ex.more (by dsimp only [rm]; omega) (by dsimp only [rm]; omega) (kk C' hC')
theorem Ex.oPush {x : Int32} (ic : Nat) (rs : List Nat) (hrow : IsOut D r c0 xs C) (hcb : cb ≤ capN c0 0 xs.length) (hS : S[ic]? = some C) (hf : xfe M.2.2.2.2.2 pc = some (.invokevirtual ix)) (hlk : Lk M.2.1.cls ix mRo_push) (hc : pk S [ic] [C]) (hrr : pk S rs Sr) (hn2 : va_nd rs = true) (hdis : ∀ i ∈ rs, i ∉ [ic]) (hrm : (rest.map fun v => v.category).sum ≤ 8) (hN : (xs ++ [x]).length ≤ N) (hN2 : N + 9 ≤ 2600)
    (h1 : 3 ≤ R.frames) (h2 : 120 ≤ R.locals) (h3 : bk + (capN c0 0 N - cb) / 8 ≤ R.cells) (h4 : bn + 2 * (capN c0 0 N - cb) ≤ R.slots)
    (kk : ∀ C', IsOut D r c0 (xs ++ [x]) C' → Ex l M D R A Q mc ms (pc + 3) lv (.int 1 :: rest) (Sr ++ [C']) (bk + (capN c0 0 (xs ++ [x]).length - cb) / 8) (bn + 2 * (capN c0 0 (xs ++ [x]).length - cb))) :
    Ex l M D R A Q mc ms pc lv (.int x :: .ref r :: rest) S (bk + (capN c0 0 xs.length - cb) / 8) (bn + 2 * (capN c0 0 xs.length - cb)) := by
  have hm := capN_mono (c := c0) (n := 0) hN
  have ha : capN c0 0 (xs ++ [x]).length = rcap (capN c0 0 xs.length) xs.length := by
    rw [List.length_append, capN_add, Nat.zero_add]; rfl
  rw [ha] at hm
  refine Ex.push ic rs hrow (by rw [List.length_append] at hN; simp at hN; omega) hS hf hlk hc hrr hn2 hdis hrm hcb h1 h2 (by omega) (by omega) ?_
  intro C' hC'
  rw [← ha] at hC' ⊢
  exact kk C' hC'
/-- what is left to do at the row's end -/
theorem Ex.oEnd {M : xM} {pc bk bn} {st : List Value} {S : List va_W} {xs ys : List Int32} (e : xs = ys) (kk : Ex l M D R A Q mc ms pc lv st S (bk + (capN c0 0 ys.length - cb) / 8) (bn + 2 * (capN c0 0 ys.length - cb))) : Ex l M D R A Q mc ms pc lv st S (bk + (capN c0 0 xs.length - cb) / 8) (bn + 2 * (capN c0 0 xs.length - cb)) := by
  subst e; exact kk
end OU
end
section
/-! TextWriter: its start, forget, writeHit -/
/-- a hit's line -/
def hline (h : HV) : List Int32 := part 88 h.2.1 ++ (part 89 h.2.2.1 ++ ((if hslot h then [71, 56, 53] ++ (part 88 h.2.2.2.1 ++ part 89 h.2.2.2.2.1) else []) ++ [10]))
/-- a hit's places lie near enough -/
def hnear (h : HV) : Prop := h.2.1.toInt.natAbs ≤ 1000000 ∧ h.2.2.1.toInt.natAbs ≤ 1000000 ∧ h.2.2.2.1.toInt.natAbs ≤ 1000000 ∧ h.2.2.2.2.1.toInt.natAbs ≤ 1000000
section WH
variable {l : Launch} {D : xD} {R : Room}
theorem ct_Tw_init {a p : Nat} (hr : rmOk R 2 2 11) : Ct l mTw_init D R [.ref a, .ref p] [[(a, .inr (8, gdf 8))]] (fun v S => v = none ∧ ∃ r Co, S = [sTw a p r false 0 0, Co] ∧ IsOut D r 8 [] Co) := by
  obtain ⟨r1, r2, r3, r4⟩ := hr
  refine Ct.of rfl (by decide) tkTw_init (Nat.le_of_ble_eq_true rfl) (fun A => ?_)
  refine Ex.p rfl ?_
  refine Ex.oi rfl lk_8_3 (by omega) (by simp; omega) ?_
  refine Ex.p rfl ?_
  refine Ex.new (ci := 5) (N := 3) rfl rfl (by omega) (by omega) (fun q => ?_)
  refine Ex.p rfl ?_
  refine Ex.p rfl ?_
  refine Ex.ci (Mc := mRo_init) (Rc := rm 1 1 8) (As := [.int (nI 2600)]) (rest := [.ref q, .ref a]) (Sr := [[(a, .inr (8, gdf 8))]]) [1] [0] (ct_Ro_init (by decide) (Nat.le_refl _) (by decide) (Nat.le_refl _) (Nat.le_refl _)) rfl lk_8_11 lcRo_init rfl rfl rfl rfl rfl (by decide) ⟨r1, by show 8 + (2 + 11) + 40 ≤ R.locals; omega⟩ (Nat.le_of_ble_eq_true rfl) (by show 0 + 1 + 1 ≤ R.cells; omega) (by show 0 + 3 + 8 ≤ R.slots; omega) ?_
  rintro v S1 ⟨rfl, C1, rfl, hC1⟩
  refine Ex.pfF 0 0 rfl rfl rfl rfl rfl rfl rfl rfl ?_
  refine Ex.p rfl ?_
  refine Ex.p rfl ?_
  refine Ex.pfF 0 0 rfl rfl rfl rfl rfl rfl rfl rfl ?_
  exact Ex.vret rfl rfl (by show 0 + 1 + 1 ≤ R.cells; omega) (by show 0 + 3 + 8 ≤ R.slots; omega) rfl ⟨rfl, q, C1, rfl, hC1⟩
theorem ct_Tw_forget {w p r : Nat} {kp : Bool} {kf kt : Int32} : Ct l mTw_forget D R [.ref w] [sTw w p r kp kf kt] (fun v S => v = none ∧ S = [sTw w p r false kf kt]) := by
  refine Ct.of rfl (by decide) tkTw_forget (Nat.le_of_ble_eq_true rfl) (fun A => ?_)
  refine Ex.p rfl ?_
  refine Ex.p rfl ?_
  refine Ex.pf 0 0 rfl rfl rfl rfl rfl rfl ?_
  exact Ex.vret rfl rfl (Nat.zero_le _) (Nat.zero_le _) rfl ⟨rfl, rfl⟩
theorem ct_isSlotG {S0 : List va_W} {C1 : va_W} {i j a : Nat} {h : HV} (h1 : S0[i]? = some C1) (h1' : C1[j]? = some (cHit a h)) : Ct l mHi_isSlot D R [.ref a] S0 (fun v S => v = some (.int (b32 (hslot h))) ∧ S = S0) := by
  refine Ct.of rfl (by decide) tkHi_isSlot (Nat.le_of_ble_eq_true rfl) (fun A => ?_)
  refine Ex.p rfl ?_
  refine Ex.gf i j h1 h1' rfl ?_
  refine Ex.p rfl ?_
  refine Ex.gf i j h1 h1' rfl ?_
  refine Ex.br rfl (fun c1 => ?_) (fun c1 => ?_)
  · repeat (first | refine Ex.p rfl ?_ | refine Ex.ldc rfl ?_ | refine Ex.ldc2 rfl ?_)
    refine Ex.zret rfl rfl (Or.inr rfl) (Nat.zero_le _) (Nat.zero_le _) rfl ⟨?_, rfl⟩
    simp [hslot, b32, c1]
  · refine Ex.p rfl ?_
    refine Ex.gf i j h1 h1' rfl ?_
    refine Ex.p rfl ?_
    refine Ex.gf i j h1 h1' rfl ?_
    refine Ex.br rfl (fun c2 => ?_) (fun c2 => ?_)
    · repeat (first | refine Ex.p rfl ?_ | refine Ex.ldc rfl ?_ | refine Ex.ldc2 rfl ?_)
      refine Ex.zret rfl rfl (Or.inl rfl) (Nat.zero_le _) (Nat.zero_le _) rfl ⟨?_, rfl⟩
      simp at c1
      simp [hslot, b32, c1, c2]
    · repeat (first | refine Ex.p rfl ?_ | refine Ex.ldc rfl ?_ | refine Ex.ldc2 rfl ?_)
      refine Ex.zret rfl rfl (Or.inr rfl) (Nat.zero_le _) (Nat.zero_le _) rfl ⟨?_, rfl⟩
      simp [hslot, b32, c2]
theorem ct_Tw_writeHit {w p r c0 a j : Nat} {kp : Bool} {kf kt : Int32} {h : HV} {xs : List Int32} {Co Hs : va_W} (ho : IsOut D r c0 xs Co) (hj : Hs[j]? = some (cHit a h)) (hh : hnear h) (hL : (xs ++ hline h).length + 9 ≤ 2600) (hr : rmOk R 5 ((capN c0 0 (xs ++ hline h).length - capN c0 0 xs.length) / 8) (2 * (capN c0 0 (xs ++ hline h).length - capN c0 0 xs.length))) :
    Ct l mTw_writeHit D R [.ref w, .ref a] [sTw w p r kp kf kt, Co, Hs] (fun v S => v = none ∧ ∃ Co', S = [sTw w p r kp kf kt, Co', Hs] ∧ IsOut D r c0 (xs ++ hline h) Co') := by
  obtain ⟨r1, r2, r3, r4⟩ := hr
  obtain ⟨n1, n2, n3, n4⟩ := hh
  generalize hN : (xs ++ hline h).length = N at hL r3 r4
  generalize hcb : capN c0 0 xs.length = cb at r3 r4
  refine Ct.of rfl (by decide) tkTw_writeHit (Nat.le_of_ble_eq_true rfl) (fun A => ?_)
  refine Ex.more (k' := 0 + (capN c0 0 xs.length - cb) / 8) (n' := 0 + 2 * (capN c0 0 xs.length - cb)) (Nat.zero_le _) (Nat.zero_le _) ?_
  refine Ex.p rfl ?_
  refine Ex.gf 0 0 rfl rfl rfl ?_
  refine Ex.p rfl ?_
  refine Ex.p rfl ?_
  refine Ex.gf 2 j rfl hj rfl ?_
  refine Ex.oPart (N := N) (c := 88) (Sr := [sTw w p r kp kf kt, Hs]) 1 [0, 2] ho (by omega) rfl rfl lk_8_69 rfl rfl rfl (by decide) (Nat.le_of_ble_eq_true rfl) n1 (by rw [← hN, hline]; simp <;> omega) (by omega) (by omega) (by omega) (by omega) (by omega) (fun C1 hC1 => ?_)
  have q1 := capN_mono (c := c0) (n := 0) (show xs.length ≤ (xs ++ part 88 h.2.1).length by simp)
  refine Ex.p rfl ?_
  refine Ex.gf 0 0 rfl rfl rfl ?_
  refine Ex.p rfl ?_
  refine Ex.p rfl ?_
  refine Ex.gf 1 j rfl hj rfl ?_
  refine Ex.oPart (N := N) (c := 89) (Sr := [sTw w p r kp kf kt, Hs]) 2 [0, 1] hC1 (by omega) rfl rfl lk_8_69 rfl rfl rfl (by decide) (Nat.le_of_ble_eq_true rfl) n2 (by rw [← hN, hline]; simp <;> omega) (by omega) (by omega) (by omega) (by omega) (by omega) (fun C2 hC2 => ?_)
  generalize hx2 : (xs ++ part 88 h.2.1) ++ part 89 h.2.2.1 = x2 at hC2 ⊢
  have q2 := capN_mono (c := c0) (n := 0) (show xs.length ≤ x2.length by rw [← hx2]; simp <;> omega)
  have q2b := capN_mono (c := c0) (n := 0) (show x2.length ≤ N by rw [← hx2, ← hN, hline]; simp <;> omega)
  have hend : ∀ (xe : List Int32) (Ce : va_W), IsOut D r c0 xe Ce → xs.length ≤ xe.length → xe ++ [10] = xs ++ hline h → Ex l mTw_writeHit D R A (xQ D A (fun v S => v = none ∧ ∃ Co', S = [sTw w p r kp kf kt, Co', Hs] ∧ IsOut D r c0 (xs ++ hline h) Co')) R.cells R.slots 68 [(0, .ref w), (1, .ref a)] [] [sTw w p r kp kf kt, Hs, Ce] (0 + (capN c0 0 xe.length - cb) / 8) (0 + 2 * (capN c0 0 xe.length - cb)) := by
    intro xe Ce hCe hle he
    have q3 := capN_mono (c := c0) (n := 0) hle
    refine Ex.p rfl ?_
    refine Ex.gf 0 0 rfl rfl rfl ?_
    refine Ex.p rfl ?_
    refine Ex.oPush (N := N) (x := 10) (Sr := [sTw w p r kp kf kt, Hs]) 2 [0, 1] hCe (by omega) rfl rfl lk_8_73 rfl rfl rfl (by decide) (Nat.le_of_ble_eq_true rfl) (by rw [he, hN]; omega) (by omega) (by omega) (by omega) (by omega) (by omega) (fun C3 hC3 => ?_)
    rw [he] at hC3 ⊢
    rw [hN]
    refine Ex.p rfl ?_
    refine Ex.sub (S' := [sTw w p r kp kf kt, C3, Hs]) [0, 2, 1] rfl rfl ?_
    exact Ex.vret rfl rfl (by omega) (by omega) rfl ⟨rfl, C3, rfl, hC3⟩
  refine Ex.p rfl ?_
  refine Ex.cv (Mc := mHi_isSlot) (Rc := rm 0 0 0) (As := []) (rest := []) (Sr := [sTw w p r kp kf kt, C2]) (ic := 1) (jc := j) (ci := 3) [1] [0, 2] (ct_isSlotG (S0 := [Hs]) (i := 0) rfl hj) rfl lk_8_123 lcHi_isSlot rfl rfl rfl rfl rfl (by decide) rfl hj rfl (by decide) ⟨by dsimp only [rm]; omega, by show 8 + (1 + 11) + 0 ≤ R.locals; omega⟩ (Nat.zero_le _) (by dsimp only [rm]; omega) (by dsimp only [rm]; omega) ?_
  rintro v S1 ⟨rfl, rfl⟩
  refine Ex.more (k' := 0 + (capN c0 0 x2.length - cb) / 8) (n' := 0 + 2 * (capN c0 0 x2.length - cb)) (by dsimp only [rm]; omega) (by dsimp only [rm]; omega) ?_
  refine Ex.sub (S' := [sTw w p r kp kf kt, Hs, C2]) [0, 2, 1] rfl rfl ?_
  cases hs : hslot h with
  | false =>
    refine Ex.br rfl (fun _ => ?_) (fun c => absurd rfl c)
    exact hend x2 C2 hC2 (by rw [← hx2]; simp <;> omega) (by rw [← hx2]; simp [hline, hs])
  | true =>
    refine Ex.br rfl (fun c => absurd c (by decide)) (fun _ => ?_)
    refine Ex.p rfl ?_
    refine Ex.gf 0 0 rfl rfl rfl ?_
    refine Ex.ldcS rfl ?_
    refine Ex.oText (N := N) (t := 5) (Sr := [sTw w p r kp kf kt, Hs]) 2 [0, 1] hC2 (by omega) rfl rfl lk_8_63 rfl rfl rfl (by decide) (Nat.le_of_ble_eq_true rfl) (by decide) (by rw [← hN, ← hx2, hline, hs]; simp [txt, gSB] <;> omega) (by omega) (by omega) (by omega) (by omega) (by omega) (fun C3 hC3 => ?_)
    have q3 := capN_mono (c := c0) (n := 0) (show x2.length ≤ (x2 ++ txt 5).length by simp)
    refine Ex.p rfl ?_
    refine Ex.gf 0 0 rfl rfl rfl ?_
    refine Ex.p rfl ?_
    refine Ex.p rfl ?_
    refine Ex.gf 1 j rfl hj rfl ?_
    refine Ex.oPart (N := N) (c := 88) (Sr := [sTw w p r kp kf kt, Hs]) 2 [0, 1] hC3 (by omega) rfl rfl lk_8_69 rfl rfl rfl (by decide) (Nat.le_of_ble_eq_true rfl) n3 (by rw [← hN, ← hx2, hline, hs]; simp [txt, gSB] <;> omega) (by omega) (by omega) (by omega) (by omega) (by omega) (fun C4 hC4 => ?_)
    have q4 := capN_mono (c := c0) (n := 0) (show x2.length ≤ (x2 ++ txt 5 ++ part 88 h.2.2.2.1).length by simp <;> omega)
    refine Ex.p rfl ?_
    refine Ex.gf 0 0 rfl rfl rfl ?_
    refine Ex.p rfl ?_
    refine Ex.p rfl ?_
    refine Ex.gf 1 j rfl hj rfl ?_
    refine Ex.oPart (N := N) (c := 89) (Sr := [sTw w p r kp kf kt, Hs]) 2 [0, 1] hC4 (by omega) rfl rfl lk_8_69 rfl rfl rfl (by decide) (Nat.le_of_ble_eq_true rfl) n4 (by rw [← hN, ← hx2, hline, hs]; simp [txt, gSB] <;> omega) (by omega) (by omega) (by omega) (by omega) (by omega) (fun C5 hC5 => ?_)
    exact hend _ C5 hC5 (by rw [← hx2]; simp <;> omega) (by rw [← hx2]; simp [hline, hs, txt, gSB])
end WH
end
section
/-! TextWriter: writeHits -/
/-- the lines of a tool's hits of the layers kf to kt, the tool named before the first -/
def whits (nm kf kt : Int32) : Bool → List HV → List Int32
  | _, [] => []
  | b, h :: r => if h.2.2.2.2.2.1 = kf ∧ h.2.2.2.2.2.2 = kt then (if b then [] else part 84 nm ++ [10]) ++ (hline h ++ whits nm kf kt true r) else whits nm kf kt b r
abbrev cTo (t : Nat) (dm : Int32) (pl : Bool) (rh ro : Nat) (len : Int64) (pn : Bool) : Nat × va_E := (t, .inr (9, [.int dm, .int (b32 pl), .ref rh, .ref ro, .long len, .int (b32 pn)]))
section WS
variable {l : Launch} {D : xD} {R : Room}
theorem ct_Tw_writeHits {w p r c0 d t ch co nm : Nat} {kp pl pn : Bool} {kf kt dm : Int32} {len : Int64} {xs hrow : List Int32} {ts : List TV} {hs : List (Nat × HV)} {ks : List Nat} {Co Cd T Hs C : va_W} (ho : IsOut D r c0 xs Co) (hd : IsDr D d ts hs Cd T Hs) (ht : IsTool D t dm pl hrow (ks.map nI) len pn ch co C) (hks : ∀ n ∈ ks, n < hs.length) (hk60 : ks.length ≤ 60) (hnear9 : ∀ h ∈ hs, hnear h.2) (hnm : nm ≤ 1000)
    (hL : (xs ++ whits (nI nm) kf kt false (ks.map (fun k => (hs.map (fun h => h.2)).getD k ogv))).length + 9 ≤ 2600) (hr : rmOk R 6 ((capN c0 0 (xs ++ whits (nI nm) kf kt false (ks.map (fun k => (hs.map (fun h => h.2)).getD k ogv))).length - capN c0 0 xs.length) / 8) (2 * (capN c0 0 (xs ++ whits (nI nm) kf kt false (ks.map (fun k => (hs.map (fun h => h.2)).getD k ogv))).length - capN c0 0 xs.length))) :
    Ct l mTw_writeHits D R [.ref w, .ref d, .ref t, .int (nI nm)] [sTw w p r kp kf kt, Co, Cd, C, Hs] (fun v S => v = none ∧ ∃ Co', S = [sTw w p r kp kf kt, Co', Cd, C, Hs] ∧ IsOut D r c0 (xs ++ whits (nI nm) kf kt false (ks.map (fun k => (hs.map (fun h => h.2)).getD k ogv))) Co') := by
  obtain ⟨r1, r2, r3, r4⟩ := hr
  generalize hg : (fun k => (hs.map (fun h => h.2)).getD k ogv) = g at hL r3 r4 ⊢
  generalize hW : xs ++ whits (nI nm) kf kt false (ks.map g) = W at hL r3 r4 ⊢
  generalize hN : W.length = N at hL r3 r4
  generalize hcb : capN c0 0 xs.length = cb at r3 r4
  have hhl : hs.length ≤ 60 := by obtain ⟨_, _, _, _, _, _, _, _, _, _, q⟩ := hd; exact q
  have hHs : Hs = sHs hs := by obtain ⟨_, _, _, _, _, _, q, _⟩ := hd; exact q
  obtain ⟨ta, ha, ft, fh, eCd, -⟩ := id hd
  obtain ⟨rh, ro, Ch, Cq, rfl, hrh, hro⟩ := ht
  obtain ⟨arr, f, rfl, x1, x2, x3, x4, x5, x6⟩ := id hro
  have hlen : (ks.map nI).length = ks.length := by simp
  refine Ct.of rfl (by decide) tkTw_writeHits (Nat.le_of_ble_eq_true rfl) (fun A => ?_)
  generalize hQ : (fun (v : Option Value) S => v = none ∧ ∃ Co', S = [sTw w p r kp kf kt, Co', Cd, (t, .inr (9, [.int dm, .int (b32 pl), .ref rh, .ref ro, .long len, .int (b32 pn)])) :: (Ch ++ sRow D ro arr co f 60 (ks.map nI).length), Hs] ∧ IsOut D r c0 W Co') = Q
  have loop : ∀ (m i : Nat), ks.length - i < m → i ≤ ks.length → ∀ (b : Bool) (ys : List Int32) (C' : va_W), IsOut D r c0 ys C' → xs.length ≤ ys.length → ys ++ whits (nI nm) kf kt b ((ks.drop i).map g) = W → ∀ lv9 : List (Nat × Value), (∀ q ∈ [(5, Value.int (nI i)), (4, .int (b32 b)), (0, .ref w), (1, .ref d), (2, .ref t), (3, .int (nI nm))], q ∈ lv9) →
      Ex l mTw_writeHits D R A (xQ D A Q) R.cells R.slots 6 lv9 [] [sTw w p r kp kf kt, C', Cd, [cTo t dm pl rh ro len pn], Ch, sRow D ro arr co f 60 (ks.map nI).length, Hs] (0 + (capN c0 0 ys.length - cb) / 8) (0 + 2 * (capN c0 0 ys.length - cb)) := by
    intro m
    induction m with
    | zero => intro i h; omega
    | succ m ih =>
      intro i hm hi b ys C' hC' hys hyW lv9 hlv
      refine Ex.lv hlv ?_
      have q1 := capN_mono (c := c0) (n := 0) hys
      have hyN : ys.length ≤ N := by rw [← hN, ← hyW]; simp
      have q2 := capN_mono (c := c0) (n := 0) hyN
      refine Ex.p rfl ?_
      refine Ex.p rfl ?_
      refine Ex.gf 3 0 rfl rfl rfl ?_
      refine Ex.gf 5 0 rfl rfl rfl ?_
      refine Ex.br rfl (fun c1 => ?_) (fun c1 => ?_)
      · rw [nI_leI (by omega) (by omega), hlen] at c1
        have hi9 : i = ks.length := by omega
        rw [hi9, List.drop_length] at hyW
        have hyW : ys ++ [] = W := hyW
        rw [List.append_nil] at hyW
        subst hyW
        refine Ex.vret (S' := [sTw w p r kp kf kt, C', Cd, (t, .inr (9, [.int dm, .int (b32 pl), .ref rh, .ref ro, .long len, .int (b32 pn)])) :: (Ch ++ sRow D ro arr co f 60 (ks.map nI).length), Hs]) rfl rfl (by omega) (by omega) (by simp) ?_
        subst hQ
        exact ⟨rfl, C', rfl, hC'⟩
      · rw [nI_leI (by omega) (by omega), hlen] at c1
        have hi9 : i < ks.length := by omega
        have hni : ks[i]? = some ks[i] := List.getElem?_eq_getElem hi9
        have hn9 : ks[i] < hs.length := hks _ (List.getElem_mem hi9)
        have hat := sHs_at (hs := hs) (List.getElem?_eq_getElem hn9)
        rw [← hHs] at hat
        have hgi : g ks[i] = (hs[ks[i]]).2 := by rw [← hg]; simp [List.getD_eq_getElem?_getD, hn9]
        have hnr : hnear (hs[ks[i]]).2 := hnear9 _ (List.getElem_mem hn9)
        rw [List.drop_eq_getElem_cons hi9, List.map_cons, hgi] at hyW
        refine Ex.p rfl ?_
        refine Ex.p rfl ?_
        refine Ex.gf 3 0 rfl rfl rfl ?_
        refine Ex.p rfl ?_
        refine Ex.cv (Mc := mRo_get) (Rc := rm 0 0 0) (As := [.int (nI i)]) (rest := [.ref d]) (Sr := [sTw w p r kp kf kt, C', Cd, [cTo t dm pl rh ro len pn], Ch, Hs]) (ic := 5) (jc := 0) (ci := 5) [5] [0, 1, 2, 3, 4, 6] (ct_Ro_get hro) rfl lk_8_97 lcRo_get rfl rfl rfl rfl rfl (by decide) rfl rfl rfl (by decide) ⟨by dsimp only [rm]; omega, by show 8 + (2 + 11) + 0 ≤ R.locals; omega⟩ (Nat.le_of_ble_eq_true rfl) (by dsimp only [rm]; omega) (by dsimp only [rm]; omega) ?_
        rintro v S1 ⟨rfl, rfl⟩
        rw [rget_nI hi9 (by omega), show ks.getD i 0 = ks[i] from by rw [List.getD_eq_getElem?_getD, hni]; rfl]
        refine Ex.cv (Mc := mDr_hitAt) (Rc := rm 0 0 0) (As := [.int (nI ks[i])]) (rest := []) (Sr := [sTw w p r kp kf kt, C', [cTo t dm pl rh ro len pn], Ch, Hs, sRow D ro arr co f 60 (ks.map nI).length]) (ic := 2) (jc := 0) (ci := 1) [2] [0, 1, 3, 4, 5, 6] (ct_Dr_hitAt hd) rfl lk_8_101 lcDr_hitAt rfl rfl rfl rfl rfl (by decide) rfl (by rw [eCd]; rfl) rfl (by decide) ⟨by dsimp only [rm]; omega, by show 8 + (2 + 11) + 0 ≤ R.locals; omega⟩ (Nat.le_of_ble_eq_true rfl) (by dsimp only [rm]; omega) (by dsimp only [rm]; omega) ?_
        rintro v S1 ⟨rfl, rfl⟩
        rw [ixo, nI_toInt (by omega), if_pos (by omega), Int.toNat_natCast, List.getElem?_eq_getElem hn9]
        refine Ex.more (k' := 0 + (capN c0 0 ys.length - cb) / 8) (n' := 0 + 2 * (capN c0 0 ys.length - cb)) (by dsimp only [rm]; omega) (by dsimp only [rm]; omega) ?_
        refine Ex.sub (S' := [sTw w p r kp kf kt, C', Cd, [cTo t dm pl rh ro len pn], Ch, sRow D ro arr co f 60 (ks.map nI).length, Hs]) [0, 1, 6, 2, 3, 5, 4] rfl rfl ?_
        generalize hs[ks[i]] = h9 at hat hnr hyW
        obtain ⟨a9, h9⟩ := h9
        refine Ex.p rfl ?_
        refine Ex.p rfl ?_
        refine Ex.nuR rfl ?_
        have skip : ¬ (h9.2.2.2.2.2.1 = kf ∧ h9.2.2.2.2.2.2 = kt) → Ex l mTw_writeHits D R A (xQ D A Q) R.cells R.slots 96 [(6, .ref a9), (5, Value.int (nI i)), (4, .int (b32 b)), (0, .ref w), (1, .ref d), (2, .ref t), (3, .int (nI nm))] [] [sTw w p r kp kf kt, C', Cd, [cTo t dm pl rh ro len pn], Ch, sRow D ro arr co f 60 (ks.map nI).length, Hs] (0 + (capN c0 0 ys.length - cb) / 8) (0 + 2 * (capN c0 0 ys.length - cb)) := by
          intro hne
          refine Ex.p rfl ?_
          refine Ex.p rfl ?_
          rw [i_add1]
          refine ih (i + 1) (by omega) (by omega) b ys C' hC' hys ?_ _ ?_
          · rw [← hyW]
            show _ = ys ++ (if h9.2.2.2.2.2.1 = kf ∧ h9.2.2.2.2.2.2 = kt then _ else _)
            rw [if_neg hne]
          · intro q h
            simp only [List.mem_cons, List.not_mem_nil, or_false] at h
            rcases h with rfl | rfl | rfl | rfl | rfl | rfl <;> simp [xs1, Value.category]
        have emit : ∀ (y2 : List Int32) (C2 : va_W), IsOut D r c0 y2 C2 → xs.length ≤ y2.length → y2 ++ (hline h9 ++ whits (nI nm) kf kt true ((ks.drop (i + 1)).map g)) = W → ∀ lv9 : List (Nat × Value), (∀ q ∈ [(6, .ref a9), (5, Value.int (nI i)), (4, .int 1), (0, .ref w), (1, .ref d), (2, .ref t), (3, .int (nI nm))], q ∈ lv9) → Ex l mTw_writeHits D R A (xQ D A Q) R.cells R.slots 90 lv9 [] [sTw w p r kp kf kt, C2, Cd, [cTo t dm pl rh ro len pn], Ch, sRow D ro arr co f 60 (ks.map nI).length, Hs] (0 + (capN c0 0 y2.length - cb) / 8) (0 + 2 * (capN c0 0 y2.length - cb)) := by
          intro y2 C2 hC2 hy2 hyW2 lv9 hlv
          refine Ex.lv hlv ?_
          have hle : (y2 ++ hline h9).length ≤ N := by rw [← hN, ← hyW2]; simp only [List.length_append]; omega
          have q3 := capN_mono (c := c0) (n := 0) hy2
          have q4 := capN_mono (c := c0) (n := 0) hle
          have q5 := capN_mono (c := c0) (n := 0) (show y2.length ≤ (y2 ++ hline h9).length by simp)
          refine Ex.p rfl ?_
          refine Ex.p rfl ?_
          refine Ex.cv (Mc := mTw_writeHit) (Rc := rm 5 ((capN c0 0 (y2 ++ hline h9).length - capN c0 0 y2.length) / 8) (2 * (capN c0 0 (y2 ++ hline h9).length - capN c0 0 y2.length))) (As := [.ref a9]) (rest := []) (Sr := [Cd, [cTo t dm pl rh ro len pn], Ch, sRow D ro arr co f 60 (ks.map nI).length]) (ic := 0) (jc := 0) (ci := 8) [0, 1, 6] [2, 3, 4, 5] (ct_Tw_writeHit (h := h9) hC2 hat hnr (by omega) (rm_ok _ _ _)) rfl lk_8_113 lcTw_writeHit rfl rfl rfl rfl rfl (by decide) rfl rfl rfl (by decide) ⟨by dsimp only [rm]; omega, by show 8 + (2 + 11) + 200 ≤ R.locals; omega⟩ (Nat.le_of_ble_eq_true rfl) (by dsimp only [rm]; omega) (by dsimp only [rm]; omega) ?_
          rintro v S1 ⟨rfl, C3, rfl, hC3⟩
          refine Ex.more (k' := 0 + (capN c0 0 (y2 ++ hline h9).length - cb) / 8) (n' := 0 + 2 * (capN c0 0 (y2 ++ hline h9).length - cb)) (by dsimp only [rm]; omega) (by dsimp only [rm]; omega) ?_
          refine Ex.sub (S' := [sTw w p r kp kf kt, C3, Cd, [cTo t dm pl rh ro len pn], Ch, sRow D ro arr co f 60 (ks.map nI).length, Hs]) [4, 5, 0, 1, 2, 3, 6] rfl rfl ?_
          refine Ex.p rfl ?_
          refine Ex.p rfl ?_
          rw [i_add1]
          refine ih (i + 1) (by omega) (by omega) true _ C3 hC3 (by simp; omega) (by rw [List.append_assoc]; exact hyW2) _ ?_
          intro q h
          simp only [List.mem_cons, List.not_mem_nil, or_false] at h
          rcases h with rfl | rfl | rfl | rfl | rfl | rfl <;> simp [xs1, Value.category, b32]
        refine Ex.p rfl ?_
        refine Ex.gf 6 ks[i] rfl hat rfl ?_
        refine Ex.p rfl ?_
        refine Ex.gf 0 0 rfl rfl rfl ?_
        refine Ex.br rfl (fun c2 => skip (fun q => c2 q.1)) (fun c2 => ?_)
        have c2 : h9.2.2.2.2.2.1 = kf := Decidable.byContradiction c2
        refine Ex.p rfl ?_
        refine Ex.gf 6 ks[i] rfl hat rfl ?_
        refine Ex.p rfl ?_
        refine Ex.gf 0 0 rfl rfl rfl ?_
        refine Ex.br rfl (fun c3 => skip (fun q => c3 q.2)) (fun c3 => ?_)
        have c3 : h9.2.2.2.2.2.2 = kt := Decidable.byContradiction c3
        have hyW : ys ++ (if h9.2.2.2.2.2.1 = kf ∧ h9.2.2.2.2.2.2 = kt then (if b then [] else part 84 (nI nm) ++ [10]) ++ (hline h9 ++ whits (nI nm) kf kt true ((ks.drop (i + 1)).map g)) else whits (nI nm) kf kt b ((ks.drop (i + 1)).map g)) = W := hyW
        rw [if_pos ⟨c2, c3⟩] at hyW
        refine Ex.p rfl ?_
        cases b with
        | true =>
          refine Ex.br rfl (fun _ => ?_) (fun c => absurd (by decide) c)
          refine emit ys C' hC' hys (by simpa using hyW) _ (fun q h => ?_)
          simp only [List.mem_cons, List.not_mem_nil, or_false] at h
          rcases h with rfl | rfl | rfl | rfl | rfl | rfl | rfl <;> simp [xs1, Value.category, b32]
        | false =>
          have hyW : ys ++ ((part 84 (nI nm) ++ [10]) ++ (hline h9 ++ whits (nI nm) kf kt true ((ks.drop (i + 1)).map g))) = W := hyW
          have hl2 : ((ys ++ part 84 (nI nm)) ++ [10]).length ≤ N := by rw [← hN, ← hyW]; simp <;> omega
          have q3 := capN_mono (c := c0) (n := 0) (show ys.length ≤ (ys ++ part 84 (nI nm)).length by simp)
          refine Ex.br rfl (fun c => absurd rfl c) (fun _ => ?_)
          refine Ex.p rfl ?_
          refine Ex.gf 0 0 rfl rfl rfl ?_
          refine Ex.p rfl ?_
          refine Ex.p rfl ?_
          refine Ex.oPart (N := N) (c := 84) (Sr := [sTw w p r kp kf kt, Cd, [cTo t dm pl rh ro len pn], Ch, sRow D ro arr co f 60 (ks.map nI).length, Hs]) 1 [0, 2, 3, 4, 5, 6] hC' (by omega) rfl rfl lk_8_69 rfl rfl rfl (by decide) (Nat.le_of_ble_eq_true rfl) (by rw [nI_toInt (by omega)]; omega) (by have := hl2; simp only [List.length_append] at this ⊢; omega) (by omega) (by omega) (by omega) (by omega) (by omega) (fun C2 hC2 => ?_)
          refine Ex.p rfl ?_
          refine Ex.gf 0 0 rfl rfl rfl ?_
          refine Ex.p rfl ?_
          refine Ex.oPush (N := N) (x := 10) (Sr := [sTw w p r kp kf kt, Cd, [cTo t dm pl rh ro len pn], Ch, sRow D ro arr co f 60 (ks.map nI).length, Hs]) 6 [0, 1, 2, 3, 4, 5] hC2 (by omega) rfl rfl lk_8_73 rfl rfl rfl (by decide) (Nat.le_of_ble_eq_true rfl) hl2 (by omega) (by omega) (by omega) (by omega) (by omega) (fun C3 hC3 => ?_)
          refine Ex.p rfl ?_
          refine Ex.p rfl ?_
          refine Ex.p rfl ?_
          refine Ex.sub (S' := [sTw w p r kp kf kt, C3, Cd, [cTo t dm pl rh ro len pn], Ch, sRow D ro arr co f 60 (ks.map nI).length, Hs]) [0, 6, 1, 2, 3, 4, 5] rfl rfl ?_
          refine emit _ C3 hC3 (by simp; omega) (by rw [← hyW]; simp) _ (fun q h => ?_)
          simp only [List.mem_cons, List.not_mem_nil, or_false] at h
          rcases h with rfl | rfl | rfl | rfl | rfl | rfl | rfl <;> simp [xs1, Value.category, b32]
  refine Ex.more (k' := 0 + (capN c0 0 xs.length - cb) / 8) (n' := 0 + 2 * (capN c0 0 xs.length - cb)) (Nat.zero_le _) (Nat.zero_le _) ?_
  refine Ex.seg (S' := [sTw w p r kp kf kt, Co, Cd, [cTo t dm pl rh ro len pn], Ch, sRow D ro arr co f 60 (ks.map nI).length, Hs]) (by simp) ?_
  refine Ex.p rfl ?_
  refine Ex.p rfl ?_
  refine Ex.p rfl ?_
  refine Ex.p rfl ?_
  refine loop (ks.length + 1) 0 (by omega) (by omega) false xs Co ho (Nat.le_refl _) hW _ (fun q h => ?_)
  simp only [List.mem_cons, List.not_mem_nil, or_false] at h
  rcases h with rfl | rfl | rfl | rfl | rfl | rfl <;> simp [xs1, lv_args, Value.category, b32, nI]
end WS
end
section
/-! TextWriter: writeHead -/
def tlines : Nat → List (Int32 × Bool) → List Int32
  | _, [] => []
  | i, t :: r => part 84 (nI i) ++ (part 67 t.1 ++ ((if t.2 then [80, 10] else [78, 10]) ++ tlines (i + 1) r))
def headT (kf kt : Int32) (tv : List (Int32 × Bool)) : List Int32 := [77, 52, 56, 10] ++ (part 76 kf ++ (part 44 kt ++ ([10] ++ (tlines 0 tv ++ [37, 10]))))
/-- a tool's diameter and whether it is plated -/
abbrev tvo (t : TV) : Int32 × Bool := (t.2.1, t.2.2.1)
theorem IsTs.cell {D : xD} {ts : List TV} {T : va_W} (h : IsTs D ts T) {i : Nat} {t : TV} (hi : ts[i]? = some t) : ∃ (j rh ro : Nat), T[j]? = some (cTo t.1 t.2.1 t.2.2.1 rh ro t.2.2.2.2.2.1 t.2.2.2.2.2.2.1) := by
  obtain ⟨X, C, Y, rfl, ⟨rh, ro, Ch, Co, rfl, -⟩, -⟩ := h.at hi
  exact ⟨X.length, rh, ro, by simp⟩
section WD
variable {l : Launch} {D : xD} {R : Room}
theorem ct_Tw_writeHead {w p r c0 d : Nat} {kp : Bool} {kf kt : Int32} {ts : List TV} {hs : List (Nat × HV)} {Co Cd T Hs : va_W} (ho : IsOut D r c0 [] Co) (hd : IsDr D d ts hs Cd T Hs) (hkf : kf.toInt.natAbs ≤ 1000000) (hkt : kt.toInt.natAbs ≤ 1000000) (hdm : ∀ t ∈ ts, t.2.1.toInt.natAbs ≤ 1000000)
    (hL : (headT kf kt (ts.map tvo)).length + 9 ≤ 2600) (hr : rmOk R 5 ((capN c0 0 (headT kf kt (ts.map tvo)).length - c0) / 8) (2 * (capN c0 0 (headT kf kt (ts.map tvo)).length - c0))) :
    Ct l mTw_writeHead D R [.ref w, .ref d] [sTw w p r kp kf kt, Co, Cd, T] (fun v S => v = none ∧ ∃ Co', S = [sTw w p r kp kf kt, Co', Cd, T] ∧ IsOut D r c0 (headT kf kt (ts.map tvo)) Co') := by
  obtain ⟨r1, r2, r3, r4⟩ := hr
  generalize hW : headT kf kt (ts.map tvo) = W at hL r3 r4 ⊢
  generalize hN : W.length = N at hL r3 r4
  obtain ⟨ta, ha, ft, fh, eCd, hT, hHs, h1, h2, h3, h4⟩ := id hd
  refine Ct.of rfl (by decide) tkTw_writeHead (Nat.le_of_ble_eq_true rfl) (fun A => ?_)
  generalize hQ : (fun (v : Option Value) S => v = none ∧ ∃ Co', S = [sTw w p r kp kf kt, Co', Cd, T] ∧ IsOut D r c0 W Co') = Q
  have ge0 : ∀ ys : List Int32, c0 ≤ capN c0 0 ys.length := fun ys => capN_ge _ _ _
  have loop : ∀ (m i : Nat), ts.length - i < m → i ≤ ts.length → ∀ (ys : List Int32) (C' : va_W), IsOut D r c0 ys C' → ys ++ (tlines i ((ts.drop i).map tvo) ++ [37, 10]) = W → ∀ lv9 : List (Nat × Value), (∀ q ∈ [(2, Value.int (nI i)), (0, .ref w), (1, .ref d)], q ∈ lv9) →
      Ex l mTw_writeHead D R A (xQ D A Q) R.cells R.slots 47 lv9 [] [sTw w p r kp kf kt, C', Cd, T] (0 + (capN c0 0 ys.length - c0) / 8) (0 + 2 * (capN c0 0 ys.length - c0)) := by
    intro m
    induction m with
    | zero => intro i h; omega
    | succ m ih =>
      intro i hm hi ys C' hC' hyW lv9 hlv
      refine Ex.lv hlv ?_
      have hyN : ys.length ≤ N := by rw [← hN, ← hyW]; simp
      have q2 := capN_mono (c := c0) (n := 0) hyN
      have q0 := ge0 ys
      refine Ex.p rfl ?_
      refine Ex.p rfl ?_
      refine Ex.gf 2 0 rfl (by rw [eCd]; rfl) rfl ?_
      refine Ex.br rfl (fun c1 => ?_) (fun c1 => ?_)
      · rw [nI_leI (by omega) (by omega)] at c1
        have hi9 : i = ts.length := by omega
        rw [hi9, List.drop_length] at hyW
        have hyW : ys ++ [37, 10] = W := hyW
        refine Ex.p rfl ?_
        refine Ex.gf 0 0 rfl rfl rfl ?_
        refine Ex.ldcS rfl ?_
        refine Ex.oText (N := N) (t := 4) (Sr := [sTw w p r kp kf kt, Cd, T]) 1 [0, 2, 3] hC' (by omega) rfl rfl lk_8_63 rfl rfl rfl (by decide) (Nat.le_of_ble_eq_true rfl) (by decide) (by rw [← hN, ← hyW]; exact Nat.le_refl _) (by omega) (by omega) (by omega) (by omega) (by omega) (fun C3 hC3 => ?_)
        have hC3 : IsOut D r c0 W C3 := by rw [← hyW]; exact hC3
        rw [show ys ++ txt 4 = W from hyW, hN]
        refine Ex.sub (S' := [sTw w p r kp kf kt, C3, Cd, T]) [0, 3, 1, 2] rfl rfl ?_
        refine Ex.vret rfl rfl (by omega) (by omega) rfl ?_
        subst hQ
        exact ⟨rfl, C3, rfl, hC3⟩
      · rw [nI_leI (by omega) (by omega)] at c1
        have hi9 : i < ts.length := by omega
        have hti : ts[i]? = some ts[i] := List.getElem?_eq_getElem hi9
        rw [List.drop_eq_getElem_cons hi9, List.map_cons] at hyW
        have hdi := hdm _ (List.getElem_mem hi9)
        obtain ⟨jj, rh, ro, hat⟩ := IsTs.cell (D := D) (ts := ts) hT hti
        have hyW : ys ++ ((part 84 (nI i) ++ (part 67 ts[i].2.1 ++ ((if ts[i].2.2.1 then [80, 10] else [78, 10]) ++ tlines (i + 1) ((ts.drop (i + 1)).map tvo)))) ++ [37, 10]) = W := hyW
        refine Ex.p rfl ?_
        refine Ex.p rfl ?_
        refine Ex.cv (Mc := mDr_toolAt) (Rc := rm 0 0 0) (As := [.int (nI i)]) (rest := []) (Sr := [sTw w p r kp kf kt, C', T]) (ic := 2) (jc := 0) (ci := 1) [2] [0, 1, 3] (ct_Dr_toolAt hd) rfl lk_8_47 lcDr_toolAt rfl rfl rfl rfl rfl (by decide) rfl (by rw [eCd]; rfl) rfl (by decide) ⟨by dsimp only [rm]; omega, by show 8 + (2 + 11) + 0 ≤ R.locals; omega⟩ (Nat.le_of_ble_eq_true rfl) (by dsimp only [rm]; omega) (by dsimp only [rm]; omega) ?_
        rintro v S1 ⟨rfl, rfl⟩
        rw [ixo, nI_toInt (by omega), if_pos (by omega), Int.toNat_natCast, hti]
        refine Ex.more (k' := 0 + (capN c0 0 ys.length - c0) / 8) (n' := 0 + 2 * (capN c0 0 ys.length - c0)) (by dsimp only [rm]; omega) (by dsimp only [rm]; omega) ?_
        generalize ts[i] = t9 at hat hdi hyW
        refine Ex.p rfl ?_
        refine Ex.p rfl ?_
        refine Ex.nuR rfl ?_
        refine Ex.p rfl ?_
        refine Ex.gf 0 0 rfl rfl rfl ?_
        refine Ex.p rfl ?_
        refine Ex.p rfl ?_
        refine Ex.oPart (N := N) (c := 84) (Sr := [sTw w p r kp kf kt, T, Cd]) 1 [0, 2, 3] hC' (by omega) rfl rfl lk_8_69 rfl rfl rfl (by decide) (Nat.le_of_ble_eq_true rfl) (by rw [nI_toInt (by omega)]; omega) (by rw [← hN, ← hyW]; simp only [List.length_append]; omega) (by omega) (by omega) (by omega) (by omega) (by omega) (fun C2 hC2 => ?_)
        have q3 := ge0 (ys ++ part 84 (nI i))
        refine Ex.p rfl ?_
        refine Ex.gf 0 0 rfl rfl rfl ?_
        refine Ex.p rfl ?_
        refine Ex.p rfl ?_
        refine Ex.gf 1 jj rfl hat rfl ?_
        refine Ex.oPart (N := N) (c := 67) (Sr := [sTw w p r kp kf kt, T, Cd]) 3 [0, 1, 2] hC2 (by omega) rfl rfl lk_8_69 rfl rfl rfl (by decide) (Nat.le_of_ble_eq_true rfl) hdi (by rw [← hN, ← hyW]; simp only [List.length_append]; omega) (by omega) (by omega) (by omega) (by omega) (by omega) (fun C3 hC3 => ?_)
        have q4 := ge0 (ys ++ part 84 (nI i) ++ part 67 t9.2.1)
        have fin : ∀ (tt : Nat), tt < gSN → txt tt = (if t9.2.2.1 then [80, 10] else [78, 10]) → Ex l mTw_writeHead D R A (xQ D A Q) R.cells R.slots 106 [(3, .ref t9.1), (2, Value.int (nI i)), (0, .ref w), (1, .ref d)] [.ref (D.2.2.2.1 tt), .ref r] [sTw w p r kp kf kt, T, Cd, C3] (0 + (capN c0 0 (ys ++ part 84 (nI i) ++ part 67 t9.2.1).length - c0) / 8) (0 + 2 * (capN c0 0 (ys ++ part 84 (nI i) ++ part 67 t9.2.1).length - c0)) := by
          intro tt htt ett
          rw [← ett] at hyW
          refine Ex.oText (N := N) (t := tt) (Sr := [sTw w p r kp kf kt, T, Cd]) 3 [0, 1, 2] hC3 (by omega) rfl rfl lk_8_63 rfl rfl rfl (by decide) (Nat.le_of_ble_eq_true rfl) htt (by rw [← hN, ← hyW]; simp only [List.length_append]; omega) (by omega) (by omega) (by omega) (by omega) (by omega) (fun C4 hC4 => ?_)
          refine Ex.p rfl ?_
          refine Ex.p rfl ?_
          rw [i_add1]
          refine Ex.sub (S' := [sTw w p r kp kf kt, C4, Cd, T]) [0, 3, 2, 1] rfl rfl ?_
          refine ih (i + 1) (by omega) (by omega) _ C4 hC4 (by rw [← hyW]; simp) _ (fun q h => ?_)
          simp only [List.mem_cons, List.not_mem_nil, or_false] at h
          rcases h with rfl | rfl | rfl <;> simp [xs1, Value.category, b32]
        refine Ex.p rfl ?_
        refine Ex.gf 0 0 rfl rfl rfl ?_
        refine Ex.p rfl ?_
        refine Ex.gf 1 jj rfl hat rfl ?_
        cases hpl : t9.2.2.1 with
        | true =>
          refine Ex.br rfl (fun c => absurd c (by decide)) (fun _ => ?_)
          refine Ex.ldcS rfl ?_
          refine Ex.p rfl ?_
          refine fin 2 (by decide) (by rw [hpl]; rfl)
        | false =>
          refine Ex.br rfl (fun _ => ?_) (fun c => absurd rfl c)
          refine Ex.ldcS rfl ?_
          refine fin 3 (by decide) (by rw [hpl]; rfl)
  have hyW : [77, 52, 56, 10] ++ (part 76 kf ++ (part 44 kt ++ ([10] ++ (tlines 0 (ts.map tvo) ++ [37, 10])))) = W := hW
  refine Ex.more (k' := 0 + (capN c0 0 ([] : List Int32).length - c0) / 8) (n' := 0 + 2 * (capN c0 0 ([] : List Int32).length - c0)) (Nat.zero_le _) (Nat.zero_le _) ?_
  have q0 := ge0 []
  refine Ex.p rfl ?_
  refine Ex.gf 0 0 rfl rfl rfl ?_
  refine Ex.ldcS rfl ?_
  refine Ex.oText (N := N) (t := 0) (Sr := [sTw w p r kp kf kt, Cd, T]) 1 [0, 2, 3] ho (by omega) rfl rfl lk_8_63 rfl rfl rfl (by decide) (Nat.le_of_ble_eq_true rfl) (by decide) (by rw [← hN, ← hyW]; simp [txt, gSB]) (by omega) (by omega) (by omega) (by omega) (by omega) (fun C1 hC1 => ?_)
  have q1 := ge0 ([] ++ txt 0)
  refine Ex.p rfl ?_
  refine Ex.gf 0 0 rfl rfl rfl ?_
  refine Ex.p rfl ?_
  refine Ex.p rfl ?_
  refine Ex.gf 0 0 rfl rfl rfl ?_
  refine Ex.oPart (N := N) (c := 76) (Sr := [sTw w p r kp kf kt, Cd, T]) 3 [0, 1, 2] hC1 (by omega) rfl rfl lk_8_69 rfl rfl rfl (by decide) (Nat.le_of_ble_eq_true rfl) hkf (by rw [← hN, ← hyW]; simp [txt, gSB] <;> omega) (by omega) (by omega) (by omega) (by omega) (by omega) (fun C2 hC2 => ?_)
  have q2 := ge0 ([] ++ txt 0 ++ part 76 kf)
  refine Ex.p rfl ?_
  refine Ex.gf 0 0 rfl rfl rfl ?_
  refine Ex.p rfl ?_
  refine Ex.p rfl ?_
  refine Ex.gf 0 0 rfl rfl rfl ?_
  refine Ex.oPart (N := N) (c := 44) (Sr := [sTw w p r kp kf kt, Cd, T]) 3 [0, 1, 2] hC2 (by omega) rfl rfl lk_8_69 rfl rfl rfl (by decide) (Nat.le_of_ble_eq_true rfl) hkt (by rw [← hN, ← hyW]; simp [txt, gSB] <;> omega) (by omega) (by omega) (by omega) (by omega) (by omega) (fun C3 hC3 => ?_)
  have q3 := ge0 ([] ++ txt 0 ++ part 76 kf ++ part 44 kt)
  refine Ex.p rfl ?_
  refine Ex.gf 0 0 rfl rfl rfl ?_
  refine Ex.p rfl ?_
  refine Ex.oPush (N := N) (x := 10) (Sr := [sTw w p r kp kf kt, Cd, T]) 3 [0, 1, 2] hC3 (by omega) rfl rfl lk_8_73 rfl rfl rfl (by decide) (Nat.le_of_ble_eq_true rfl) (by rw [← hN, ← hyW]; simp [txt, gSB] <;> omega) (by omega) (by omega) (by omega) (by omega) (by omega) (fun C4 hC4 => ?_)
  refine Ex.p rfl ?_
  refine Ex.p rfl ?_
  refine Ex.p rfl ?_
  refine Ex.sub (S' := [sTw w p r kp kf kt, C4, Cd, T]) [0, 3, 1, 2] rfl rfl ?_
  refine loop (ts.length + 1) 0 (by omega) (by omega) _ C4 hC4 (by rw [← hyW]; simp [txt, gSB]) _ (fun q h => ?_)
  simp only [List.mem_cons, List.not_mem_nil, or_false] at h
  rcases h with rfl | rfl | rfl <;> simp [xs1, lv_args, Value.category, b32, nI]
end WD
end
section
/-! the drawing as plain values: hits of a tool, its order, the text -/
/-- the numbers of the hits of tool x, from k on -/
def tnsA (x : Int32) : Nat → List HV → List Nat
  | _, [] => []
  | k, h :: r => if h.1 = x then k :: tnsA x (k + 1) r else tnsA x (k + 1) r
abbrev tns (hv : List HV) (i : Nat) : List Nat := tnsA (nI i) 0 hv
theorem tnsA_app (x : Int32) (h : HV) : ∀ (hv : List HV) (k : Nat), tnsA x k (hv ++ [h]) = tnsA x k hv ++ (if h.1 = x then [k + hv.length] else [])
  | [], k => by
    show (if h.1 = x then [k] else []) = _
    simp [tnsA]
  | g :: r, k => by
    have ih := tnsA_app x h r (k + 1)
    rw [List.cons_append]
    unfold tnsA
    rw [ih]
    split <;> simp [Nat.add_comm, Nat.add_left_comm]
theorem tnsA_mem (x : Int32) : ∀ (hv : List HV) (k n : Nat), n ∈ tnsA x k hv → k ≤ n ∧ n < k + hv.length
  | [], k, n, h => by cases h
  | g :: r, k, n, h => by
    unfold tnsA at h
    split at h
    · rcases List.mem_cons.mp h with rfl | h
      · simp
      · have := tnsA_mem x r (k + 1) n h
        simp; omega
    · have := tnsA_mem x r (k + 1) n h
      simp; omega
theorem tns_lt {hv : List HV} {i n : Nat} (h : n ∈ tns hv i) : n < hv.length := by
  have := tnsA_mem _ _ _ _ h
  omega
theorem tnsA_len (x : Int32) : ∀ (hv : List HV) (k : Nat), (tnsA x k hv).length ≤ hv.length
  | [], _ => Nat.le_refl _
  | g :: r, k => by
    have := tnsA_len x r (k + 1)
    unfold tnsA
    split <;> simp <;> omega
theorem tnsA_len2 (x : Int32) : ∀ (hv : List HV) (k k2 : Nat), (tnsA x k hv).length = (tnsA x k2 hv).length
  | [], _, _ => rfl
  | g :: r, k, k2 => by
    have := tnsA_len2 x r (k + 1) (k2 + 1)
    unfold tnsA
    split <;> simp [this]
def csum (hv : List HV) : Nat → Nat → Nat
  | _, 0 => 0
  | i, k + 1 => (tns hv i).length + csum hv (i + 1) k
theorem tns_cons_len (h : HV) (hv : List HV) (i : Nat) : (tns (h :: hv) i).length = (if h.1 = nI i then 1 else 0) + (tns hv i).length := by
  show (if h.1 = nI i then 0 :: tnsA (nI i) (0 + 1) hv else tnsA (nI i) (0 + 1) hv).length = _
  have e := tnsA_len2 (nI i) hv (0 + 1) 0
  by_cases q : h.1 = nI i
  · rw [if_pos q, if_pos q, List.length_cons, e, Nat.add_comm]
  · rw [if_neg q, if_neg q, e, Nat.zero_add]
theorem csum_cons0 (h : HV) (hv : List HV) : ∀ (k i : Nat), (∀ j, i ≤ j → j < i + k → h.1 ≠ nI j) → csum (h :: hv) i k = csum hv i k
  | 0, _, _ => rfl
  | k + 1, i, hn => by
    show (tns (h :: hv) i).length + csum (h :: hv) (i + 1) k = (tns hv i).length + csum hv (i + 1) k
    rw [tns_cons_len, if_neg (hn i (Nat.le_refl _) (by omega)), csum_cons0 h hv k (i + 1) (fun j a b => hn j (by omega) (by omega))]
    omega
theorem csum_cons (h : HV) (hv : List HV) : ∀ (k i : Nat), i + k ≤ 1000 → csum (h :: hv) i k ≤ csum hv i k + 1
  | 0, _, _ => Nat.zero_le _
  | k + 1, i, hk => by
    show (tns (h :: hv) i).length + csum (h :: hv) (i + 1) k ≤ (tns hv i).length + csum hv (i + 1) k + 1
    rw [tns_cons_len]
    by_cases q : h.1 = nI i
    · rw [if_pos q, csum_cons0 h hv k (i + 1) (fun j a b e => by
        rw [q, nI_eq (by omega) (by omega)] at e
        omega)]
      omega
    · rw [if_neg q]
      have := csum_cons h hv k (i + 1) (by omega)
      omega
theorem csum_le : ∀ (hv : List HV) (i k : Nat), i + k ≤ 1000 → csum hv i k ≤ hv.length
  | [], i, k, _ => by
    have : ∀ (k i : Nat), csum [] i k = 0 := by
      intro k
      induction k with
      | zero => intro i; rfl
      | succ k ih => intro i; show 0 + csum [] (i + 1) k = 0; rw [ih]
    rw [this]
    exact Nat.zero_le _
  | h :: hv, i, k, hk => by
    have := csum_cons h hv k i hk
    have := csum_le hv i k hk
    simp; omega
def mvH (hv : List HV) (ns : List Nat) (j : Nat) : HV := hv.getD (ns.getD j 0) ogv
theorem mvO_eq (hs : List (Nat × HV)) (ns : List Nat) : mvO hs ns = mvH (hs.map (fun h => h.2)) ns := by
  funext j
  unfold mvO mvH
  simp [List.getD_eq_getElem?_getD]
/-- the order of a tool's hits; its length -/
noncomputable def tor (hv : List HV) (i : Nat) : List Nat := (ordOf (tns hv i).length (mvH hv (tns hv i))).1.map (fun b => (tns hv i).getD b 0)
noncomputable def tln (hv : List HV) (i : Nat) : Int64 := (ordOf (tns hv i).length (mvH hv (tns hv i))).2
theorem tor_mem {hv : List HV} {i n : Nat} (h : n ∈ tor hv i) : n < hv.length := by
  obtain ⟨b, hb, rfl⟩ := List.mem_map.mp h
  have := (ordOf_mem _ _).1 b hb
  rw [List.getD_eq_getElem?_getD, List.getElem?_eq_getElem this]
  exact tns_lt (List.getElem_mem this)
theorem tor_len (hv : List HV) (i : Nat) : (tor hv i).length ≤ (tns hv i).length := by
  unfold tor
  rw [List.length_map]
  exact (ordOf_mem _ _).2
/-- the lines of the hits of k tools from i on -/
noncomputable def thits (kf kt : Int32) (hv : List HV) : Nat → Nat → List Int32
  | _, 0 => []
  | i, k + 1 => whits (nI i) kf kt false ((tor hv i).map (fun k => hv.getD k ogv)) ++ thits kf kt hv (i + 1) k
noncomputable def textD (kf kt : Int32) (tv : List (Int32 × Bool)) (hv : List HV) : List Int32 := headT kf kt tv ++ (thits kf kt hv 0 tv.length ++ [77, 51, 48, 10])
theorem part_len1 (c : Int32) : ∀ i, i < 10 → (part c (nI i)).length = 2 := by
  intro i hi
  have : ∀ i, i < 10 → ((if (nI i).toInt < 0 then [45] else []) ++ ds (nI i).toInt.natAbs 7 : List Int32).length = 1 := by decide +kernel
  unfold part
  rw [List.length_cons, this i hi]
theorem part_len5 (c v : Int32) (h0 : 0 ≤ v.toInt) (h1 : v.toInt ≤ 10000) : (part c v).length ≤ 6 := by
  unfold part
  rw [if_neg (by omega)]
  have h5 := ds_len v.toInt.natAbs 5
  have e : ds v.toInt.natAbs 7 = ds v.toInt.natAbs 5 := by
    show (if 10 ^ 6 ≤ v.toInt.natAbs ∨ 6 = 0 then [nI (48 + v.toInt.natAbs / 10 ^ 6 % 10)] else []) ++ ((if 10 ^ 5 ≤ v.toInt.natAbs ∨ 5 = 0 then [nI (48 + v.toInt.natAbs / 10 ^ 5 % 10)] else []) ++ ds v.toInt.natAbs 5) = _
    rw [if_neg (by omega), if_neg (by omega)]
    rfl
  rw [e]
  simp; omega
theorem hline_len (h : HV) : (hline h).length ≤ 40 := by
  have h1 := part_len 88 h.2.1
  have h2 := part_len 89 h.2.2.1
  have h3 := part_len 88 h.2.2.2.1
  have h4 := part_len 89 h.2.2.2.2.1
  unfold hline
  split <;> simp <;> omega
theorem whits_len (nm : Nat) (kf kt : Int32) (hnm : nm < 10) : ∀ (hs : List HV) (b : Bool), (whits (nI nm) kf kt b hs).length ≤ (if b then 0 else 3) + 40 * hs.length
  | [], b => by unfold whits; simp
  | h :: r, b => by
    have i1 := whits_len nm kf kt hnm r true
    have i2 := whits_len nm kf kt hnm r b
    have hl := hline_len h
    have hp := part_len1 84 nm hnm
    unfold whits
    split
    · cases b <;> simp at i1 ⊢ <;> omega
    · cases b <;> simp at i2 ⊢ <;> omega
theorem thits_len (kf kt : Int32) (hv : List HV) : ∀ (k i : Nat), i + k ≤ 10 → (thits kf kt hv i k).length ≤ 3 * k + 40 * csum hv i k
  | 0, _, _ => Nat.zero_le _
  | k + 1, i, h => by
    have ih := thits_len kf kt hv k (i + 1) (by omega)
    have hw := whits_len i kf kt (by omega) ((tor hv i).map (fun k => hv.getD k ogv)) false
    have ht := tor_len hv i
    show (whits (nI i) kf kt false ((tor hv i).map (fun k => hv.getD k ogv)) ++ thits kf kt hv (i + 1) k).length ≤ 3 * (k + 1) + 40 * ((tns hv i).length + csum hv (i + 1) k)
    rw [List.length_map] at hw
    simp at hw ⊢
    omega
/-- a tool's numbers -/
def tvOK (t : Int32 × Bool) : Prop := 1 ≤ t.1.toInt ∧ t.1.toInt ≤ 10000
theorem tlines_len : ∀ (tv : List (Int32 × Bool)) (i : Nat), i + tv.length ≤ 10 → (∀ t ∈ tv, tvOK t) → (tlines i tv).length ≤ 10 * tv.length
  | [], _, _, _ => Nat.zero_le _
  | t :: r, i, h, ht => by
    rw [List.length_cons] at h
    have ih := tlines_len r (i + 1) (by omega) (fun t h => ht t (by simp [h]))
    have h1 := part_len1 84 i (by omega)
    have h2 := part_len5 67 t.1 (by have := (ht t (by simp)).1; omega) (ht t (by simp)).2
    unfold tlines
    split <;> simp <;> omega
/-- a layer -/
def layOK (x : Int32) : Prop := 0 ≤ x.toInt ∧ x.toInt ≤ 7
theorem layOK.nat {x : Int32} (h : layOK x) : ∃ i, i ≤ 7 ∧ x = nI i := by
  refine ⟨x.toInt.toNat, by have := h.2; omega, Int32.toInt_inj.mp ?_⟩
  have := h.1
  have := h.2
  rw [nI_toInt (by omega)]
  omega
theorem headT_len {kf kt : Int32} {tv : List (Int32 × Bool)} (hf : layOK kf) (ht : layOK kt) (hl : tv.length ≤ 10) (htv : ∀ t ∈ tv, tvOK t) : (headT kf kt tv).length ≤ 111 := by
  obtain ⟨a, ha, rfl⟩ := hf.nat
  obtain ⟨b, hb, rfl⟩ := ht.nat
  have h1 := part_len1 76 a (by omega)
  have h2 := part_len1 44 b (by omega)
  have h3 := tlines_len tv 0 (by omega) htv
  unfold headT
  simp; omega
theorem textD_len {kf kt : Int32} {tv : List (Int32 × Bool)} {hv : List HV} (hf : layOK kf) (ht : layOK kt) (hl : tv.length ≤ 10) (htv : ∀ t ∈ tv, tvOK t) (hh : hv.length ≤ 60) : (textD kf kt tv hv).length ≤ 2545 := by
  have h1 := headT_len hf ht hl htv
  have h2 := thits_len kf kt hv tv.length 0 (by omega)
  have h3 := csum_le hv 0 tv.length (by omega)
  unfold textD
  simp; omega
end
section
/-! TextWriter: textOf -/
def tOK (hv : List HV) (i : Nat) (t : TV) : Prop := t.2.2.2.1 = (tns hv i).map nI ∧ t.2.2.2.2.2.2.2.1 ≤ 128 ∧ t.2.2.2.2.2.2.2.2 ≤ 128 ∧ tvOK (tvo t) ∧ (t.2.2.2.2.2.2.1 = true → t.2.2.2.2.1 = (tor hv i).map nI ∧ t.2.2.2.2.2.1 = tln hv i)
def hOK (h : HV) : Prop := hnear h ∧ layOK h.2.2.2.2.2.1 ∧ layOK h.2.2.2.2.2.2
/-- what holds of every drawing -/
def DrOK (ts : List TV) (hs : List (Nat × HV)) : Prop := (∀ (i : Nat) (t : TV), ts[i]? = some t → tOK (hs.map (fun h => h.2)) i t) ∧ ∀ h ∈ hs, hOK h.2
def IsPlA (D : xD) (a : Nat) (C : va_W) : Prop := ∃ fm fd fw fr cnt lst, IsPl D a fm fd fw fr cnt lst C
/-- how many are not planned -/
def upl : List TV → Nat
  | [] => 0
  | t :: r => (if t.2.2.2.2.2.2.1 then 0 else 1) + upl r
theorem IsDr.at {D : xD} {d : Nat} {ts : List TV} {hs : List (Nat × HV)} {Cd T Hs : va_W} (h : IsDr D d ts hs Cd T Hs) {i : Nat} {t : TV} (hi : ts[i]? = some t) : ∃ X C Y, T = X ++ (C ++ Y) ∧ IsT D t C ∧ ∀ t' C', IsT D t' C' → t'.1 = t.1 → IsDr D d (ts.set i t') hs Cd (X ++ (C' ++ Y)) Hs := by
  obtain ⟨ta, ha, ft, fh, e1, hT, e2, h1, h2, h3, h4⟩ := h
  obtain ⟨X, C, Y, e, hC, hb⟩ := IsTs.at hT hi
  refine ⟨X, C, Y, e, hC, fun t' C' ht' e9 => ⟨ta, ha, ft, fh, by rw [e1]; simp, hb _ _ ht', e2, fun j u hj => ?_, h2, by simp; exact h3, h4⟩⟩
  by_cases hij : i = j
  · subst hij
    rw [List.getElem?_set_self (List.getElem?_eq_some_iff.mp hi).1] at hj
    cases hj
    rw [e9]
    exact h1 i t hi
  · rw [List.getElem?_set_ne hij] at hj
    exact h1 j u hj
theorem upl_drop {ts : List TV} {i : Nat} {t : TV} (hi : ts[i]? = some t) : upl (ts.drop i) = (if t.2.2.2.2.2.2.1 then 0 else 1) + upl (ts.drop (i + 1)) := by
  obtain ⟨h1, h2⟩ := List.getElem?_eq_some_iff.mp hi
  rw [List.drop_eq_getElem_cons h1, h2]
  rfl
theorem upl_app (a b : List TV) : upl (a ++ b) = upl a + upl b := by
  induction a with
  | nil => simp [upl]
  | cons t r ih => simp [upl, ih]; omega
theorem upl_le (ts : List TV) (i : Nat) : upl (ts.drop i) ≤ upl ts := by
  have := upl_app (ts.take i) (ts.drop i)
  rw [List.take_append_drop] at this
  omega
theorem upl_len (ts : List TV) : upl ts ≤ ts.length := by
  induction ts with
  | nil => exact Nat.le_refl _
  | cons t r ih => simp [upl]; split <;> omega
section TX
variable {l : Launch} {D : xD} {R : Room}
theorem ct_planT {a d i : Nat} {ts : List TV} {hs : List (Nat × HV)} {t : TV} {Cp Cd T Hs C : va_W} (hp : IsPlA D a Cp) (hd : IsDr D d ts hs Cd T Hs) (ht : IsT D t C) (hok : tOK (hs.map (fun h => h.2)) i t) (hr : rmOk R 5 (if t.2.2.2.2.2.2.1 = true then 0 else 15) (if t.2.2.2.2.2.2.1 = true then 0 else 240)) :
    Ct l mPl_plan D R [.ref a, .ref d, .ref t.1] [Cp, Cd, C, Hs] (fun v S => v = none ∧ ∃ Cp' C' t', S = [Cp', Cd, C', Hs] ∧ IsPlA D a Cp' ∧ IsT D t' C' ∧ tOK (hs.map (fun h => h.2)) i t' ∧ t'.2.2.2.2.2.2.1 = true ∧ t'.1 = t.1 ∧ tvo t' = tvo t) := by
  obtain ⟨fm, fd, fw, fr, cnt, lst, hp⟩ := hp
  obtain ⟨k1, k2, k3, k4, k5⟩ := id hok
  have hhl : hs.length ≤ 60 := by obtain ⟨_, _, _, _, _, _, _, _, _, _, q⟩ := hd; exact q
  unfold IsT at ht
  rw [k1] at ht
  have hlen : (tns (hs.map (fun h => h.2)) i).length ≤ hs.length := by
    have := tnsA_len (nI i) (hs.map (fun h => h.2)) 0
    rw [List.length_map] at this
    exact this
  refine Ct.imp (ct_Pl_plan hp hd ht (fun n hn => by have := tns_lt hn; rw [List.length_map] at this; exact this) (by omega) k3 hr) ?_
  rintro v S ⟨rfl, Cp', C', fm', fd', fw', fr', cnt', lst', rfl, hp', h9⟩
  refine ⟨rfl, Cp', C', ?_⟩
  rcases h9 with ⟨q, rfl⟩ | ⟨q, ps, len', co', ho, hco, ht'⟩
  · exact ⟨t, rfl, ⟨_, _, _, _, _, _, hp'⟩, by unfold IsT; rw [k1]; exact ht, hok, q, rfl, rfl⟩
  · rw [mvO_eq] at ho
    have e := ho.of
    refine ⟨(t.1, t.2.1, t.2.2.1, (tns (hs.map (fun h => h.2)) i).map nI, (tor (hs.map (fun h => h.2)) i).map nI, tln (hs.map (fun h => h.2)) i, true, t.2.2.2.2.2.2.2.1, co'), rfl, ⟨_, _, _, _, _, _, hp'⟩, ?_, ⟨rfl, k2, hco, k4, fun _ => ⟨rfl, rfl⟩⟩, rfl, rfl, rfl⟩
    show IsTool D _ _ _ _ ((tor (hs.map (fun h => h.2)) i).map nI) (tln (hs.map (fun h => h.2)) i) _ _ _ _
    unfold tor tln
    rw [e, List.map_map]
    exact ht'
theorem ct_Tw_textOf_kept {w p r d c : Nat} {f t : Int32} {S0 : List va_W} : Ct l mTw_textOf D R [.ref w, .ref d, .int f, .int t] (sTw w p r true f t :: S0) (fun v S => v = some (.ref r) ∧ S = sTw w p r true f t :: S0) := by
  refine Ct.of rfl (by decide) tkTw_textOf (Nat.le_of_ble_eq_true rfl) (fun A => ?_)
  refine Ex.p rfl ?_
  refine Ex.gf 0 0 rfl rfl rfl ?_
  refine Ex.br rfl (fun c => absurd c (by decide)) (fun _ => ?_)
  refine Ex.p rfl ?_
  refine Ex.gf 0 0 rfl rfl rfl ?_
  refine Ex.p rfl ?_
  refine Ex.br rfl (fun c => absurd rfl c) (fun _ => ?_)
  refine Ex.p rfl ?_
  refine Ex.gf 0 0 rfl rfl rfl ?_
  refine Ex.p rfl ?_
  refine Ex.br rfl (fun c => absurd rfl c) (fun _ => ?_)
  refine Ex.p rfl ?_
  refine Ex.gf 0 0 rfl rfl rfl ?_
  exact Ex.aret rfl rfl (Or.inr ⟨_, rfl⟩) (Nat.zero_le _) (Nat.zero_le _) rfl ⟨rfl, rfl⟩
theorem ct_Tw_textOf {w p r d c0 : Nat} {kp : Bool} {kf0 kt0 kf kt : Int32} {ts : List TV} {hs : List (Nat × HV)} {xs : List Int32} {Co Cp Cd T Hs : va_W} (ho : IsRow D r 2600 c0 xs Co) (hp : IsPlA D p Cp) (hd : IsDr D d ts hs Cd T Hs) (hok : DrOK ts hs) (hf : layOK kf) (ht : layOK kt) (hk : ¬ (kp = true ∧ kf0 = kf ∧ kt0 = kt))
    (hr : rmOk R 7 (15 * upl ts + (capN c0 0 (textD kf kt (ts.map tvo) (hs.map (fun h => h.2))).length - c0) / 8) (240 * upl ts + 2 * (capN c0 0 (textD kf kt (ts.map tvo) (hs.map (fun h => h.2))).length - c0))) :
    Ct l mTw_textOf D R [.ref w, .ref d, .int kf, .int kt] [sTw w p r kp kf0 kt0, Co, Cp, Cd, T, Hs] (fun v S => v = some (.ref r) ∧ ∃ Co' Cp' T' ts', S = [sTw w p r true kf kt, Co', Cp', Cd, T', Hs] ∧ IsOut D r c0 (textD kf kt (ts.map tvo) (hs.map (fun h => h.2))) Co' ∧ IsPlA D p Cp' ∧ IsDr D d ts' hs Cd T' Hs ∧ DrOK ts' hs ∧ ts'.map tvo = ts.map tvo ∧ upl ts' = 0) := by
  obtain ⟨r1, r2, r3, r4⟩ := hr
  obtain ⟨ta, ha, ft, fh, eCd, hT, hHs, h1, h2, h3, h4⟩ := id hd
  have htv : ∀ t ∈ ts.map tvo, tvOK t := by
    intro t ht
    obtain ⟨u, hu, rfl⟩ := List.mem_map.mp ht
    obtain ⟨i, hi, e⟩ := List.getElem_of_mem hu
    exact (hok.1 i u (by rw [List.getElem?_eq_getElem hi, e])).2.2.2.1
  have hWl := textD_len (hv := hs.map (fun h => h.2)) hf ht (show (ts.map tvo).length ≤ 10 by simp; exact h3) htv (by simp; exact h4)
  have hWe : textD kf kt (ts.map tvo) (hs.map (fun h => h.2)) = headT kf kt (ts.map tvo) ++ (thits kf kt (hs.map (fun h => h.2)) 0 ts.length ++ [77, 51, 48, 10]) := by unfold textD; rw [List.length_map]
  generalize hW : textD kf kt (ts.map tvo) (hs.map (fun h => h.2)) = W at r3 r4 hWl hWe ⊢
  generalize hN : W.length = N at r3 r4 hWl
  generalize hU : upl ts = U at r3 r4
  refine Ct.of rfl (by decide) tkTw_textOf (Nat.le_of_ble_eq_true rfl) (fun A => ?_)
  generalize hQ : (fun (v : Option Value) S => v = some (.ref r) ∧ ∃ Co' Cp' T' ts', S = [sTw w p r true kf kt, Co', Cp', Cd, T', Hs] ∧ IsOut D r c0 W Co' ∧ IsPlA D p Cp' ∧ IsDr D d ts' hs Cd T' Hs ∧ DrOK ts' hs ∧ ts'.map tvo = ts.map tvo ∧ upl ts' = 0) = Q
  have ge0 : ∀ ys : List Int32, c0 ≤ capN c0 0 ys.length := fun ys => capN_ge _ _ _
  have loop : ∀ (m i : Nat), ts.length - i < m → i ≤ ts.length → ∀ (ts' : List TV) (T' Cp' C' : va_W) (ys : List Int32), IsOut D r c0 ys C' → IsPlA D p Cp' → IsDr D d ts' hs Cd T' Hs → DrOK ts' hs → ts'.map tvo = ts.map tvo → (∀ j, i ≤ j → ts'[j]? = ts[j]?) → upl (ts'.take i) = 0 → ys ++ (thits kf kt (hs.map (fun h => h.2)) i (ts.length - i) ++ [77, 51, 48, 10]) = W → ∀ lv9 : List (Nat × Value), (∀ q ∈ [(4, Value.int (nI i)), (0, .ref w), (1, .ref d), (2, .int kf), (3, .int kt)], q ∈ lv9) →
      Ex l mTw_textOf D R A (xQ D A Q) R.cells R.slots 58 lv9 [] [sTw w p r true kf kt, C', Cp', Cd, T', Hs] (15 * (U - upl (ts.drop i)) + (capN c0 0 ys.length - c0) / 8) (240 * (U - upl (ts.drop i)) + 2 * (capN c0 0 ys.length - c0)) := by
    intro m
    induction m with
    | zero => intro i h; omega
    | succ m ih =>
      intro i hm hi ts' T' Cp' C' ys hC' hp' hd' hok' etv hsame hpl hyW lv9 hlv
      refine Ex.lv hlv ?_
      have hyN : ys.length ≤ N := by rw [← hN, ← hyW]; simp
      have q2 := capN_mono (c := c0) (n := 0) hyN
      have q0 := ge0 ys
      have hu := upl_le ts i
      have hl' : ts'.length = ts.length := by have := congrArg List.length etv; simpa using this
      refine Ex.p rfl ?_
      refine Ex.p rfl ?_
      refine Ex.gf 3 0 rfl (by rw [eCd]; rfl) rfl ?_
      refine Ex.br rfl (fun c1 => ?_) (fun c1 => ?_)
      · rw [nI_leI (by omega) (by omega)] at c1
        have hi9 : i = ts.length := by omega
        subst hi9
        rw [Nat.sub_self] at hyW
        have hyW : ys ++ [77, 51, 48, 10] = W := hyW
        refine Ex.p rfl ?_
        refine Ex.gf 0 0 rfl rfl rfl ?_
        refine Ex.ldcS rfl ?_
        refine Ex.oText (N := N) (t := 6) (Sr := [sTw w p r true kf kt, Cp', Cd, T', Hs]) 1 [0, 2, 3, 4, 5] hC' (by omega) rfl rfl lk_8_63 rfl rfl rfl (by decide) (Nat.le_of_ble_eq_true rfl) (by decide) (by rw [← hN, ← hyW]; exact Nat.le_refl _) (by omega) (by omega) (by omega) (by omega) (by omega) (fun C3 hC3 => ?_)
        have hC3 : IsOut D r c0 W C3 := by rw [← hyW]; exact hC3
        rw [show ys ++ txt 6 = W from hyW, hN]
        refine Ex.p rfl ?_
        refine Ex.gf 0 0 rfl rfl rfl ?_
        refine Ex.sub (S' := [sTw w p r true kf kt, C3, Cp', Cd, T', Hs]) [0, 5, 1, 2, 3, 4] rfl rfl ?_
        refine Ex.aret rfl rfl (Or.inr ⟨_, rfl⟩) (by omega) (by omega) rfl ?_
        subst hQ
        rw [List.take_of_length_le (by omega)] at hpl
        exact ⟨rfl, C3, Cp', T', ts', rfl, hC3, hp', hd', hok', etv, hpl⟩
      · rw [nI_leI (by omega) (by omega)] at c1
        have hi9 : i < ts.length := by omega
        have hti : ts[i]? = some ts[i] := List.getElem?_eq_getElem hi9
        have hti' : ts'[i]? = some ts[i] := by rw [hsame i (Nat.le_refl _), hti]
        have hud := upl_drop hti
        have htok := hok'.1 i _ hti'
        rw [show ts.length - i = (ts.length - (i + 1)) + 1 by omega] at hyW
        obtain ⟨X, C, Y, rfl, hC, hback⟩ := hd'.at hti'
        generalize ts[i] = t9 at hti hti' hud htok hC hback
        have hu2 := upl_le ts (i + 1)
        have hyW : ys ++ ((whits (nI i) kf kt false ((tor (hs.map (fun h => h.2)) i).map (fun k => (hs.map (fun h => h.2)).getD k ogv)) ++ thits kf kt (hs.map (fun h => h.2)) (i + 1) (ts.length - (i + 1))) ++ [77, 51, 48, 10]) = W := hyW
        have hle2 : (ys ++ whits (nI i) kf kt false ((tor (hs.map (fun h => h.2)) i).map (fun k => (hs.map (fun h => h.2)).getD k ogv))).length ≤ N := by rw [← hN, ← hyW]; simp only [List.length_append]; omega
        generalize hys2 : ys ++ whits (nI i) kf kt false ((tor (hs.map (fun h => h.2)) i).map (fun k => (hs.map (fun h => h.2)).getD k ogv)) = ys2 at hle2
        have q5 := capN_mono (c := c0) (n := 0) hle2
        have q6 := capN_mono (c := c0) (n := 0) (show ys.length ≤ ys2.length by rw [← hys2]; simp)
        obtain ⟨rh, ro, Ch, Cq, eC, -⟩ := id hC
        refine Ex.p rfl ?_
        refine Ex.p rfl ?_
        refine Ex.cv (Mc := mDr_toolAt) (Rc := rm 0 0 0) (As := [.int (nI i)]) (rest := []) (Sr := [sTw w p r true kf kt, C', Cp', X ++ (C ++ Y), Hs]) (ic := 3) (jc := 0) (ci := 1) [3] [0, 1, 2, 4, 5] (ct_Dr_toolAt hd') rfl lk_8_47 lcDr_toolAt rfl rfl rfl rfl rfl (by decide) rfl (by rw [eCd]; rfl) rfl (by decide) ⟨by dsimp only [rm]; omega, by show 8 + (2 + 11) + 0 ≤ R.locals; omega⟩ (Nat.le_of_ble_eq_true rfl) (by dsimp only [rm]; omega) (by dsimp only [rm]; omega) ?_
        rintro v S1 ⟨rfl, rfl⟩
        rw [ixo, nI_toInt (by omega), if_pos (by omega), Int.toNat_natCast, hti']
        refine Ex.more (k' := 15 * (U - upl (ts.drop i)) + (capN c0 0 ys.length - c0) / 8) (n' := 240 * (U - upl (ts.drop i)) + 2 * (capN c0 0 ys.length - c0)) (by dsimp only [rm]; omega) (by dsimp only [rm]; omega) ?_
        refine Ex.sub (S' := [sTw w p r true kf kt, C', Cp', Cd, X ++ (C ++ Y), Hs]) [0, 1, 2, 5, 3, 4] rfl rfl ?_
        refine Ex.seg (S' := [sTw w p r true kf kt, C', Cp', Cd, X, C, Y, Hs]) (by simp) ?_
        refine Ex.p rfl ?_
        refine Ex.p rfl ?_
        refine Ex.nuR rfl ?_
        refine Ex.p rfl ?_
        refine Ex.gf 0 0 rfl rfl rfl ?_
        refine Ex.p rfl ?_
        refine Ex.p rfl ?_
        obtain ⟨og, mi, dn, wy, rs, fm9, fd9, fw9, fr9, cnt9, lst9, ePl⟩ : ∃ og mi dn wy rs fm9 fd9 fw9 fr9 cnt9 lst9, Cp' = sPl D p og mi dn wy rs fm9 fd9 fw9 fr9 cnt9 lst9 := by
          obtain ⟨fm9, fd9, fw9, fr9, cnt9, lst9, og, mi, dn, wy, rs, e⟩ := hp'
          exact ⟨og, mi, dn, wy, rs, fm9, fd9, fw9, fr9, cnt9, lst9, e⟩
        have hcost : (if t9.2.2.2.2.2.2.1 = true then 0 else 15) = 15 * (if t9.2.2.2.2.2.2.1 = true then 0 else 1) ∧ (if t9.2.2.2.2.2.2.1 = true then 0 else 240) = 240 * (if t9.2.2.2.2.2.2.1 = true then 0 else 1) := by split <;> simp
        refine Ex.cv (Mc := mPl_plan) (Rc := rm 5 (if t9.2.2.2.2.2.2.1 = true then 0 else 15) (if t9.2.2.2.2.2.2.1 = true then 0 else 240)) (As := [.ref d, .ref t9.1]) (rest := []) (Sr := [sTw w p r true kf kt, C', X, Y]) (ic := 2) (jc := 0) (ci := 4) [2, 3, 5, 7] [0, 1, 4, 6] (ct_planT hp' hd' hC htok (rm_ok _ _ _)) rfl lk_8_51 lcPl_plan rfl rfl rfl rfl rfl (by decide) rfl (by rw [ePl]; rfl) rfl (by decide) ⟨by dsimp only [rm]; omega, by show 8 + (3 + 11) + 200 ≤ R.locals; omega⟩ (Nat.le_of_ble_eq_true rfl) (by dsimp only [rm]; omega) (by dsimp only [rm]; omega) ?_
        rintro v S1 ⟨rfl, Cp2, C2, t2, rfl, hp2, hC2, htok2, hpn2, e2, etv2⟩
        have hd2 := hback t2 C2 hC2 e2
        refine Ex.more (k' := 15 * (U - upl (ts.drop (i + 1))) + (capN c0 0 ys.length - c0) / 8) (n' := 240 * (U - upl (ts.drop (i + 1))) + 2 * (capN c0 0 ys.length - c0)) (by dsimp only [rm]; rw [hcost.1]; omega) (by dsimp only [rm]; rw [hcost.2]; omega) ?_
        have hos2 := htok2.2.2.2.2 hpn2
        have hC2' := id hC2
        unfold IsT at hC2'
        rw [hos2.1] at hC2'
        rw [e2] at hC2'
        have hnr : ∀ h ∈ hs, hnear h.2 := fun h hh => (hok.2 h hh).1
        have htl : (tor (hs.map (fun h => h.2)) i).length ≤ hs.length := by
          have h1 := tor_len (hs.map (fun h => h.2)) i
          have h2 : (tns (hs.map (fun h => h.2)) i).length ≤ (hs.map (fun h => h.2)).length := tnsA_len _ _ _
          rw [List.length_map] at h2
          omega
        refine Ex.p rfl ?_
        refine Ex.p rfl ?_
        refine Ex.p rfl ?_
        refine Ex.p rfl ?_
        refine Ex.cv (Mc := mTw_writeHits) (Rc := rm 6 ((capN c0 0 ys2.length - capN c0 0 ys.length) / 8) (2 * (capN c0 0 ys2.length - capN c0 0 ys.length))) (As := [.ref d, .ref t9.1, .int (nI i)]) (rest := []) (Sr := [X, Y, Cp2]) (ic := 0) (jc := 0) (ci := 8) [0, 1, 5, 6, 7] [2, 3, 4] (ct_Tw_writeHits hC' hd2 hC2' (fun n hn => by have := tor_mem hn; rw [List.length_map] at this; exact this) (by omega) hnr (by omega) (by rw [hys2]; omega) (by rw [hys2]; exact rm_ok _ _ _)) rfl lk_8_57 lcTw_writeHits rfl rfl rfl rfl rfl (by decide) rfl rfl rfl (by decide) ⟨by dsimp only [rm]; omega, by show 8 + (7 + 11) + 240 ≤ R.locals; omega⟩ (Nat.le_of_ble_eq_true rfl) (by dsimp only [rm]; omega) (by dsimp only [rm]; omega) ?_
        rintro v S1 ⟨rfl, C3, rfl, hC3⟩
        rw [hys2] at hC3
        refine Ex.more (k' := 15 * (U - upl (ts.drop (i + 1))) + (capN c0 0 ys2.length - c0) / 8) (n' := 240 * (U - upl (ts.drop (i + 1))) + 2 * (capN c0 0 ys2.length - c0)) (by dsimp only [rm]; omega) (by dsimp only [rm]; omega) ?_
        refine Ex.sub (S' := [sTw w p r true kf kt, C3, Cp2, Cd, X, C2, Y, Hs]) [3, 4, 2, 5, 0, 6, 1, 7] rfl rfl ?_
        refine Ex.seg (S' := [sTw w p r true kf kt, C3, Cp2, Cd, X ++ (C2 ++ Y), Hs]) (by simp) ?_
        refine Ex.p rfl ?_
        refine Ex.p rfl ?_
        rw [i_add1]
        have hi' : i < ts'.length := by omega
        refine ih (i + 1) (by omega) (by omega) (ts'.set i t2) _ Cp2 C3 ys2 hC3 hp2 hd2 ⟨fun j u hj => ?_, hok.2⟩ ?_ (fun j hj => ?_) ?_ ?_ _ (fun q h => ?_)
        · by_cases hij : i = j
          · subst hij
            rw [List.getElem?_set_self hi'] at hj
            cases hj
            exact htok2
          · rw [List.getElem?_set_ne hij] at hj
            exact hok'.1 j u hj
        · rw [← etv]
          refine List.ext_getElem? fun j => ?_
          rw [List.getElem?_map, List.getElem?_map]
          by_cases hij : i = j
          · subst hij
            rw [List.getElem?_set_self hi', hti']
            show some (tvo t2) = some (tvo t9)
            rw [etv2]
          · rw [List.getElem?_set_ne hij]
        · rw [List.getElem?_set_ne (by omega)]
          exact hsame j (by omega)
        · have e9 : (ts'.set i t2).take (i + 1) = ts'.take i ++ [t2] := by
            rw [List.take_succ, List.getElem?_set_self hi', List.take_set_of_le (Nat.le_refl _)]
            rfl
          rw [e9, upl_app, hpl]
          simp [upl, hpn2]
        · rw [← hys2, ← hyW]; simp
        · simp only [List.mem_cons, List.not_mem_nil, or_false] at h
          rcases h with rfl | rfl | rfl | rfl | rfl <;> simp [xs1, Value.category, b32]
  have hhl : (headT kf kt (ts.map tvo)).length ≤ N := by rw [← hN, hWe]; simp only [List.length_append]; omega
  have q5 := capN_mono (c := c0) (n := 0) hhl
  have q6 := ge0 (headT kf kt (ts.map tvo))
  have main : Ex l mTw_textOf D R A (xQ D A Q) R.cells R.slots 28 [(0, .ref w), (1, .ref d), (2, .int kf), (3, .int kt)] [] [sTw w p r kp kf0 kt0, Co, Cp, Cd, T, Hs] 0 0 := by
    refine Ex.p rfl ?_
    refine Ex.p rfl ?_
    refine Ex.pf 0 0 rfl rfl rfl rfl rfl rfl ?_
    refine Ex.p rfl ?_
    refine Ex.p rfl ?_
    refine Ex.pf 0 0 rfl rfl rfl rfl rfl rfl ?_
    refine Ex.p rfl ?_
    refine Ex.p rfl ?_
    refine Ex.pf 0 0 rfl rfl rfl rfl rfl rfl ?_
    refine Ex.p rfl ?_
    refine Ex.gf 0 0 rfl rfl rfl ?_
    obtain ⟨arr, f, eCo, -⟩ := id ho
    refine Ex.cv (Mc := mRo_empty) (Rc := rm 0 0 0) (As := []) (rest := []) (Sr := [sTw w p r true kf kt, Cp, Cd, T, Hs]) (ic := 1) (jc := 0) (ci := 5) [1] [0, 2, 3, 4, 5] (ct_Ro_empty ho) rfl lk_8_35 lcRo_empty rfl rfl rfl rfl rfl (by decide) rfl (by rw [eCo]; rfl) rfl (by decide) ⟨by dsimp only [rm]; omega, by show 8 + (1 + 11) + 0 ≤ R.locals; omega⟩ (Nat.le_of_ble_eq_true rfl) (by dsimp only [rm]; omega) (by dsimp only [rm]; omega) ?_
    rintro v S1 ⟨rfl, C1, rfl, hC1⟩
    refine Ex.p rfl ?_
    refine Ex.p rfl ?_
    refine Ex.cv (Mc := mTw_writeHead) (Rc := rm 5 ((capN c0 0 (headT kf kt (ts.map tvo)).length - c0) / 8) (2 * (capN c0 0 (headT kf kt (ts.map tvo)).length - c0))) (As := [.ref d]) (rest := []) (Sr := [Cp, Hs]) (ic := 0) (jc := 0) (ci := 8) [0, 5, 2, 3] [1, 4] (ct_Tw_writeHead hC1 hd (by have := hf.1; have := hf.2; omega) (by have := ht.1; have := ht.2; omega) (fun t h9 => by have := htv (tvo t) (List.mem_map.mpr ⟨t, h9, rfl⟩); unfold tvOK at this; dsimp only [tvo] at this; omega) (by omega) (rm_ok _ _ _)) rfl lk_8_38 lcTw_writeHead rfl rfl rfl rfl rfl (by decide) rfl rfl rfl (by decide) ⟨by dsimp only [rm]; omega, by show 8 + (4 + 11) + 200 ≤ R.locals; omega⟩ (Nat.le_of_ble_eq_true rfl) (by dsimp only [rm]; omega) (by dsimp only [rm]; omega) ?_
    rintro v S1 ⟨rfl, C2, rfl, hC2⟩
    refine Ex.p rfl ?_
    refine Ex.p rfl ?_
    refine Ex.sub (S' := [sTw w p r true kf kt, C2, Cp, Cd, T, Hs]) [2, 3, 0, 4, 5, 1] rfl rfl ?_
    refine Ex.more (k' := 15 * (U - upl (ts.drop 0)) + (capN c0 0 (headT kf kt (ts.map tvo)).length - c0) / 8) (n' := 240 * (U - upl (ts.drop 0)) + 2 * (capN c0 0 (headT kf kt (ts.map tvo)).length - c0)) (by dsimp only [rm]; omega) (by dsimp only [rm]; omega) ?_
    refine loop (ts.length + 1) 0 (by omega) (by omega) ts T Cp C2 _ hC2 hp hd hok rfl (fun _ _ => rfl) rfl (by rw [hWe]; simp) _ (fun q h => ?_)
    simp only [List.mem_cons, List.not_mem_nil, or_false] at h
    rcases h with rfl | rfl | rfl | rfl | rfl <;> simp [xs1, lv_args, Value.category, b32, nI]
  refine Ex.p rfl ?_
  refine Ex.gf 0 0 rfl rfl rfl ?_
  cases kp with
  | false => exact Ex.br rfl (fun _ => main) (fun c => absurd rfl c)
  | true =>
    refine Ex.br rfl (fun c => absurd c (by decide)) (fun _ => ?_)
    refine Ex.p rfl ?_
    refine Ex.gf 0 0 rfl rfl rfl ?_
    refine Ex.p rfl ?_
    refine Ex.br rfl (fun _ => main) (fun c1 => ?_)
    have c1 : kf0 = kf := Decidable.byContradiction c1
    refine Ex.p rfl ?_
    refine Ex.gf 0 0 rfl rfl rfl ?_
    refine Ex.p rfl ?_
    refine Ex.br rfl (fun _ => main) (fun c2 => ?_)
    have c2 : kt0 = kt := Decidable.byContradiction c2
    exact absurd ⟨rfl, c1, c2⟩ hk
end TX
end
section
/-! a text read: plain values -/
def gt (xs : List Int32) (p : Nat) : Int32 := xs.getD p (-1)
theorem rget_gt {xs : List Int32} {p : Nat} (h : p < 2 ^ 31) : rget xs (nI p) = gt xs p := by
  unfold rget gt
  rw [nI_toInt h]
  by_cases q : p < xs.length
  · rw [if_pos ⟨by omega, by omega⟩, Int.toNat_natCast, List.getD_eq_getElem?_getD, List.getD_eq_getElem?_getD, List.getElem?_eq_getElem q]
    rfl
  · rw [if_neg (by omega), List.getD_eq_getElem?_getD, List.getElem?_eq_none (by omega)]
    rfl
theorem gt_end {xs : List Int32} {p : Nat} (h : xs.length ≤ p) : gt xs p = -1 := by
  unfold gt
  rw [List.getD_eq_getElem?_getD, List.getElem?_eq_none h]
  rfl
theorem gt_lt {xs : List Int32} {p : Nat} (h : gt xs p ≠ -1) : p < xs.length := by
  rcases Nat.lt_or_ge p xs.length with q | q
  · exact q
  · exact absurd (gt_end q) h
def isDg (c : Int32) : Bool := decide (48 ≤ c.toInt ∧ c.toInt ≤ 57)
theorem isDg_m1 : isDg (-1) = false := by decide
/-- the characters that must stand here -/
def pLit (xs : List Int32) : List Int32 → Nat → Bool × Nat
  | [], p => (true, p)
  | c :: r, p => if gt xs p = c then pLit xs r (p + 1) else (false, p)
/-- at most k digits -/
def pDig (xs : List Int32) : Nat → Nat → Nat → Nat × Nat
  | 0, p, v => (v, p)
  | k + 1, p, v => if isDg (gt xs p) then pDig xs k (p + 1) (v * 10 + ((gt xs p).toInt - 48).toNat) else (v, p)
def pNeg (xs : List Int32) (sg : Bool) (p : Nat) : Bool := sg && decide (gt xs p = 45)
def pNumAt (xs : List Int32) (b : Bool) (q : Nat) : Option Int32 × Nat := if q < (pDig xs 7 q 0).2 then (some (if b then - nI (pDig xs 7 q 0).1 else nI (pDig xs 7 q 0).1), (pDig xs 7 q 0).2) else (none, (pDig xs 7 q 0).2)
def pNum (xs : List Int32) (sg : Bool) (p : Nat) : Option Int32 × Nat := pNumAt xs (pNeg xs sg p) (if pNeg xs sg p then p + 1 else p)
def pPart (xs : List Int32) (c : Int32) (sg : Bool) (p : Nat) : Option Int32 × Nat := if gt xs p = c then pNum xs sg (p + 1) else (none, p)
def pLayerLine (xs : List Int32) (p : Nat) : Option (Int32 × Int32) × Nat := match pPart xs 76 false p with
  | (none, p1) => (none, p1)
  | (some a, p1) => match pPart xs 44 false p1 with
    | (none, p2) => (none, p2)
    | (some b, p2) => match pLit xs [10] p2 with
      | (false, p3) => (none, p3)
      | (true, p3) => if (0 ≤ a.toInt ∧ a.toInt ≤ 7) ∧ (0 ≤ b.toInt ∧ b.toInt ≤ 7) ∧ a ≤ b then (some (a, b), p3) else (none, p)
def pToolLine (xs : List Int32) (n p : Nat) : Option (Int32 × Bool) × Nat := match pPart xs 84 false p with
  | (none, p1) => (none, p1)
  | (some t, p1) => match pPart xs 67 false p1 with
    | (none, p2) => (none, p2)
    | (some d, p2) => match pLit xs (if gt xs p2 = 80 then [80, 10] else [78, 10]) p2 with
      | (false, p3) => (none, p3)
      | (true, p3) => if t = nI n ∧ (1 ≤ d.toInt ∧ d.toInt ≤ 10000) ∧ n < 10 then (some (d, decide (gt xs p2 = 80)), p3) else (none, p)
def pChoice (xs : List Int32) (n p : Nat) : Option Int32 × Nat := match pPart xs 84 false p with
  | (none, p1) => (none, p1)
  | (some t, p1) => match pLit xs [10] p1 with
    | (false, p2) => (none, p2)
    | (true, p2) => if 0 ≤ t.toInt ∧ t.toInt < n then (some t, p2) else (none, p)
def pPlace (xs : List Int32) (p : Nat) : Option (Int32 × Int32) × Nat := match pPart xs 88 true p with
  | (none, p1) => (none, p1)
  | (some x, p1) => match pPart xs 89 true p1 with
    | (none, p2) => (none, p2)
    | (some y, p2) => (some (x, y), p2)
abbrev near2 (x y : Int32) : Prop := -1000000 ≤ x.toInt ∧ x.toInt ≤ 1000000 ∧ -1000000 ≤ y.toInt ∧ y.toInt ≤ 1000000
def pHitLine (xs : List Int32) (nh : Nat) (ch f t : Int32) (p : Nat) : Option HV × Nat := match pPlace xs p with
  | (none, p1) => (none, p1)
  | (some a, p1) =>
    if gt xs p1 = 71 then match pLit xs [71, 56, 53] p1 with
      | (false, p2) => (none, p2)
      | (true, p2) => match pPlace xs p2 with
        | (none, p3) => (none, p3)
        | (some b, p3) => match pLit xs [10] p3 with
          | (false, p4) => (none, p4)
          | (true, p4) => if (near2 a.1 a.2 ∧ near2 b.1 b.2) ∧ ¬ (a.1 = b.1 ∧ a.2 = b.2) ∧ nh < 60 then (some (ch, a.1, a.2, b.1, b.2, 0, 7), p4) else (none, p)
    else match pLit xs [10] p1 with
      | (false, p2) => (none, p2)
      | (true, p2) => if near2 a.1 a.2 ∧ nh < 60 then (some (ch, a.1, a.2, a.1, a.2, f, t), p2) else (none, p)
/-- where reading stands: stage, layers told, from, to, tools, hits, the tool chosen -/
abbrev RS : Type := Nat × Bool × Int32 × Int32 × List (Int32 × Bool) × List HV × Int32
abbrev rs0 : RS := (0, false, 0, 0, [], [], -1)
/-- one line -/
def pStep (xs : List Int32) (s : RS) (p : Nat) : Option RS × Nat := match s with
  | (st, hl, f, t, tv, hv, ch) =>
    if st = 0 then match pLit xs [77, 52, 56, 10] p with
      | (false, q) => (none, q)
      | (true, q) => (some (1, hl, f, t, tv, hv, ch), q)
    else if st = 1 then
      if gt xs p = 76 ∧ tv = [] then match pLayerLine xs p with
        | (none, q) => (none, q)
        | (some a, q) => (some (1, true, a.1, a.2, tv, hv, ch), q)
      else if gt xs p = 84 ∧ hl = true then match pToolLine xs tv.length p with
        | (none, q) => (none, q)
        | (some a, q) => (some (1, hl, f, t, tv ++ [a], hv, ch), q)
      else if gt xs p = 37 ∧ hl = true then match pLit xs [37, 10] p with
        | (false, q) => (none, q)
        | (true, q) => (some (2, hl, f, t, tv, hv, ch), q)
      else (none, p)
    else
      if gt xs p = 84 then match pChoice xs tv.length p with
        | (none, q) => (none, q)
        | (some c, q) => (some (2, hl, f, t, tv, hv, c), q)
      else if gt xs p = 88 ∧ ch ≠ -1 then match pHitLine xs hv.length ch f t p with
        | (none, q) => (none, q)
        | (some h, q) => (some (2, hl, f, t, tv, hv ++ [h], ch), q)
      else match pLit xs [77, 51, 48, 10] p with
        | (false, q) => (none, q)
        | (true, q) => (some (3, hl, f, t, tv, hv, ch), q)
/-- what reading comes to: the first wrong place, or tools and hits -/
def RnK (xs : List Int32) : Nat → RS → Nat → Nat ⊕ (List (Int32 × Bool) × List HV) → Prop
  | 0, s, p, r => (s.1 = 3 ∧ p = xs.length ∧ r = .inr (s.2.2.2.2.1, s.2.2.2.2.2.1)) ∨ (s.1 = 3 ∧ p ≠ xs.length ∧ r = .inl p) ∨ (s.1 < 3 ∧ ∃ q, pStep xs s p = (none, q) ∧ r = .inl q)
  | k + 1, s, p, r => s.1 < 3 ∧ ∃ s' q, pStep xs s p = (some s', q) ∧ RnK xs k s' q r
def Rn (xs : List Int32) (s : RS) (p : Nat) (r : Nat ⊕ (List (Int32 × Bool) × List HV)) : Prop := ∃ k, RnK xs k s p r
theorem Rn.fin {xs : List Int32} {s : RS} (h : s.1 = 3) : Rn xs s xs.length (.inr (s.2.2.2.2.1, s.2.2.2.2.2.1)) := ⟨0, Or.inl ⟨h, rfl, rfl⟩⟩
theorem Rn.trail {xs : List Int32} {s : RS} {p : Nat} (h : s.1 = 3) (hp : p ≠ xs.length) : Rn xs s p (.inl p) := ⟨0, Or.inr (Or.inl ⟨h, hp, rfl⟩)⟩
theorem Rn.bad {xs : List Int32} {s : RS} {p q : Nat} (h : s.1 < 3) (hq : pStep xs s p = (none, q)) : Rn xs s p (.inl q) := ⟨0, Or.inr (Or.inr ⟨h, q, hq, rfl⟩)⟩
theorem Rn.step {xs : List Int32} {s s' : RS} {p q : Nat} {r : Nat ⊕ (List (Int32 × Bool) × List HV)} (h : s.1 < 3) (hq : pStep xs s p = (some s', q)) (hr : Rn xs s' q r) : Rn xs s p r := by
  obtain ⟨k, hk⟩ := hr
  exact ⟨k + 1, h, s', q, hq, hk⟩
theorem RnK.uniq {xs : List Int32} {r r' : Nat ⊕ (List (Int32 × Bool) × List HV)} : ∀ {k k' : Nat} {s : RS} {p : Nat}, RnK xs k s p r → RnK xs k' s p r' → r = r'
  | 0, 0, s, p, h, h' => by
    rcases h with ⟨a, b, rfl⟩ | ⟨a, b, rfl⟩ | ⟨a, q, b, rfl⟩ <;> rcases h' with ⟨a', b', rfl⟩ | ⟨a', b', rfl⟩ | ⟨a', q', b', rfl⟩ <;> first | rfl | omega | exact absurd b b' | exact absurd b' b | (rw [b] at b'; cases b'; rfl)
  | 0, k' + 1, s, p, h, h' => by
    obtain ⟨a', s', q', b', -⟩ := h'
    rcases h with ⟨a, b, rfl⟩ | ⟨a, b, rfl⟩ | ⟨a, q, b, rfl⟩
    · omega
    · omega
    · rw [b] at b'; cases b'
  | k + 1, 0, s, p, h, h' => by
    obtain ⟨a', s', q', b', -⟩ := h
    rcases h' with ⟨a, b, rfl⟩ | ⟨a, b, rfl⟩ | ⟨a, q, b, rfl⟩
    · omega
    · omega
    · rw [b] at b'; cases b'
  | k + 1, k' + 1, s, p, h, h' => by
    obtain ⟨a, s1, q1, b, c⟩ := h
    obtain ⟨a', s2, q2, b', c'⟩ := h'
    rw [b] at b'
    cases b'
    exact RnK.uniq c c'
theorem Rn.uniq {xs : List Int32} {s : RS} {p : Nat} {r r' : Nat ⊕ (List (Int32 × Bool) × List HV)} (h : Rn xs s p r) (h' : Rn xs s p r') : r = r' := by
  obtain ⟨k, h⟩ := h
  obtain ⟨k', h'⟩ := h'
  exact RnK.uniq h h'
/-- places stay inside the text, and go on -/
theorem pLit_le {xs : List Int32} : ∀ {cs : List Int32} {p : Nat}, (∀ c ∈ cs, c ≠ -1) → p ≤ xs.length → p ≤ (pLit xs cs p).2 ∧ (pLit xs cs p).2 ≤ xs.length
  | [], p, _, hp => ⟨Nat.le_refl _, hp⟩
  | c :: r, p, hc, hp => by
    unfold pLit
    split
    · rename_i e
      have hlt : p < xs.length := gt_lt (by rw [e]; exact hc c (by simp))
      have := pLit_le (cs := r) (p := p + 1) (fun c h => hc c (by simp [h])) hlt
      exact ⟨by omega, this.2⟩
    · exact ⟨Nat.le_refl _, hp⟩
theorem pDig_le {xs : List Int32} : ∀ {k p v : Nat}, p ≤ xs.length → p ≤ (pDig xs k p v).2 ∧ (pDig xs k p v).2 ≤ xs.length ∧ (pDig xs k p v).2 ≤ p + k
  | 0, p, v, hp => ⟨Nat.le_refl _, hp, Nat.le_refl _⟩
  | k + 1, p, v, hp => by
    unfold pDig
    split
    · rename_i e
      have hlt : p < xs.length := gt_lt (fun q => by rw [q] at e; exact absurd e (by decide))
      have := pDig_le (xs := xs) (k := k) (p := p + 1) (v := v * 10 + ((gt xs p).toInt - 48).toNat) hlt
      exact ⟨by omega, this.2.1, by omega⟩
    · exact ⟨Nat.le_refl _, hp, by omega⟩
theorem pDig_val {xs : List Int32} : ∀ {k p v : Nat}, (pDig xs k p v).1 < (v + 1) * 10 ^ k
  | 0, p, v => by show v < (v + 1) * 1; omega
  | k + 1, p, v => by
    unfold pDig
    have h1 : 0 < 10 ^ k := Nat.pow_pos (by omega)
    split
    · rename_i e
      have e : 48 ≤ (gt xs p).toInt ∧ (gt xs p).toInt ≤ 57 := of_decide_eq_true e
      have := pDig_val (xs := xs) (k := k) (p := p + 1) (v := v * 10 + ((gt xs p).toInt - 48).toNat)
      refine Nat.lt_of_lt_of_le this ?_
      rw [Nat.pow_succ, Nat.mul_comm (10 ^ k) 10, ← Nat.mul_assoc]
      exact Nat.mul_le_mul_right _ (by omega)
    · show v < (v + 1) * 10 ^ (k + 1)
      calc v < (v + 1) * 1 := by omega
        _ ≤ (v + 1) * 10 ^ (k + 1) := Nat.mul_le_mul_left _ (Nat.pow_pos (by omega))
theorem pNum_le {xs : List Int32} {sg : Bool} {p : Nat} (hp : p ≤ xs.length) : p ≤ (pNum xs sg p).2 ∧ (pNum xs sg p).2 ≤ xs.length := by
  have hq : p ≤ (if pNeg xs sg p then p + 1 else p) ∧ (if pNeg xs sg p then p + 1 else p) ≤ xs.length := by
    split
    · rename_i e
      unfold pNeg at e
      simp at e
      have : p < xs.length := gt_lt (fun q => by rw [q] at e; exact absurd e.2 (by decide))
      omega
    · omega
  have := pDig_le (xs := xs) (k := 7) (v := 0) hq.2
  have e : ∀ b q, (pNumAt xs b q).2 = (pDig xs 7 q 0).2 := by
    intro b q
    unfold pNumAt
    split <;> rfl
  unfold pNum
  rw [e]
  exact ⟨Nat.le_trans hq.1 this.1, this.2.1⟩
theorem pPart_le {xs : List Int32} {c : Int32} {sg : Bool} {p : Nat} (hc : c ≠ -1) (hp : p ≤ xs.length) : p ≤ (pPart xs c sg p).2 ∧ (pPart xs c sg p).2 ≤ xs.length ∧ ((pPart xs c sg p).1 ≠ none → p < (pPart xs c sg p).2) := by
  unfold pPart
  split
  · rename_i e
    have hlt : p < xs.length := gt_lt (by rw [e]; exact hc)
    have := pNum_le (sg := sg) (show p + 1 ≤ xs.length from hlt)
    exact ⟨by omega, this.2, fun _ => by omega⟩
  · exact ⟨Nat.le_refl _, hp, fun h => absurd rfl h⟩
end
section
/-! TextReader: its start, isDigit, can, passes -/
abbrev sTr (a tx dr p : Nat) (f t ch nu px py : Int32) : va_W := [(a, .inr (7, [.ref tx, .ref dr, .int (nI p), .int f, .int t, .int ch, .int nu, .int px, .int py]))]
section R1
variable {l : Launch} {D : xD} {R : Room}
theorem ct_Tr_init {a tx dr : Nat} (hr : rmOk R 1 0 0) : Ct l mTr_init D R [.ref a, .ref tx, .ref dr] [[(a, .inr (7, gdf 7))]] (fun v S => v = none ∧ S = [sTr a tx dr 0 0 0 (-1) 0 0 0]) := by
  obtain ⟨r1, r2, r3, r4⟩ := hr
  refine Ct.of rfl (by decide) tkTr_init (Nat.le_of_ble_eq_true rfl) (fun A => ?_)
  refine Ex.p rfl ?_
  refine Ex.oi rfl lk_7_3 (by omega) (by simp; omega) ?_
  refine Ex.p rfl ?_
  refine Ex.p rfl ?_
  refine Ex.pf 0 0 rfl rfl rfl rfl rfl rfl ?_
  refine Ex.p rfl ?_
  refine Ex.p rfl ?_
  refine Ex.pfF 0 0 rfl rfl rfl rfl rfl rfl rfl rfl ?_
  refine Ex.p rfl ?_
  refine Ex.p rfl ?_
  refine Ex.pfF 0 0 rfl rfl rfl rfl rfl rfl rfl rfl ?_
  exact Ex.vret rfl rfl (Nat.zero_le _) (Nat.zero_le _) rfl ⟨rfl, rfl⟩
theorem ct_Tr_isDigit {x : Int32} : Ct l mTr_isDigit D R [.int x] [] (fun v S => v = some (.int (b32 (isDg x))) ∧ S = []) := by
  refine Ct.of rfl (by decide) tkTr_isDigit (Nat.le_of_ble_eq_true rfl) (fun A => ?_)
  refine Ex.p rfl ?_
  refine Ex.p rfl ?_
  refine Ex.br rfl (fun c1 => ?_) (fun c1 => ?_)
  · have c1 : x < 48 := c1
    rw [Int32.lt_iff_toInt_lt] at c1
    have c1 : x.toInt < 48 := c1
    refine Ex.p rfl ?_
    refine Ex.zret rfl rfl (Or.inl rfl) (Nat.zero_le _) (Nat.zero_le _) rfl ⟨?_, rfl⟩
    rw [isDg, decide_eq_false (by omega)]; rfl
  · have c1 : ¬ x < 48 := c1
    rw [Int32.lt_iff_toInt_lt] at c1
    have c1 : ¬ x.toInt < 48 := c1
    refine Ex.p rfl ?_
    refine Ex.p rfl ?_
    refine Ex.br rfl (fun c2 => ?_) (fun c2 => ?_)
    · have c2 : 57 < x := c2
      rw [Int32.lt_iff_toInt_lt] at c2
      have c2 : 57 < x.toInt := c2
      refine Ex.p rfl ?_
      refine Ex.zret rfl rfl (Or.inl rfl) (Nat.zero_le _) (Nat.zero_le _) rfl ⟨?_, rfl⟩
      rw [isDg, decide_eq_false (by omega)]; rfl
    · have c2 : ¬ 57 < x := c2
      rw [Int32.lt_iff_toInt_lt] at c2
      have c2 : ¬ 57 < x.toInt := c2
      refine Ex.p rfl ?_
      refine Ex.p rfl ?_
      refine Ex.zret rfl rfl (Or.inr rfl) (Nat.zero_le _) (Nat.zero_le _) rfl ⟨?_, rfl⟩
      rw [isDg, decide_eq_true (by omega)]; rfl
theorem ct_Tr_can {a tx dr p q : Nat} {f t ch nu px py : Int32} {b : Bool} : Ct l mTr_can D R [.ref a, .int (b32 b), .int (nI q)] [sTr a tx dr p f t ch nu px py] (fun v S => v = some (.int (b32 b)) ∧ S = [sTr a tx dr (if b then p else q) f t ch nu px py]) := by
  refine Ct.of rfl (by decide) tkTr_can (Nat.le_of_ble_eq_true rfl) (fun A => ?_)
  refine Ex.p rfl ?_
  cases b with
  | true =>
    refine Ex.br rfl (fun _ => ?_) (fun c => absurd (by decide) c)
    refine Ex.p rfl ?_
    exact Ex.zret rfl rfl (Or.inr rfl) (Nat.zero_le _) (Nat.zero_le _) rfl ⟨rfl, rfl⟩
  | false =>
    refine Ex.br rfl (fun c => absurd rfl c) (fun _ => ?_)
    refine Ex.p rfl ?_
    refine Ex.p rfl ?_
    refine Ex.pf 0 0 rfl rfl rfl rfl rfl rfl ?_
    refine Ex.p rfl ?_
    exact Ex.zret rfl rfl (Or.inl rfl) (Nat.zero_le _) (Nat.zero_le _) rfl ⟨rfl, rfl⟩
theorem txt_pos : ∀ t, t < gSN → ∀ c ∈ txt t, c ≠ -1 := by decide +kernel
theorem txt_100 : ∀ t, t < gSN → (txt t).length < 100 := by decide
theorem ct_Tr_passes {a tx dr p n cp : Nat} {f t ch nu px py : Int32} {xs : List Int32} {Cx : va_W} {L : Nat} (hx : IsRow D tx L cp xs Cx) (ht : n < gSN) (hp : p ≤ xs.length) (hr : rmOk R 4 0 0) : Ct l mTr_passes D R [.ref a, .ref (D.2.2.2.1 n)] [sTr a tx dr p f t ch nu px py, Cx] (fun v S => v = some (.int (b32 (pLit xs (txt n) p).1)) ∧ S = [sTr a tx dr (pLit xs (txt n) p).2 f t ch nu px py, Cx]) := by
  obtain ⟨r1, r2, r3, r4⟩ := hr
  obtain ⟨arr, fx, eC, x1, x2, x3, x4, x5, x6⟩ := id hx
  have hb := txt_100 n ht
  generalize hP : pLit xs (txt n) p = P
  refine Ct.of rfl (by decide) tkTr_passes (Nat.le_of_ble_eq_true rfl) (fun A => ?_)
  have loop : ∀ (m i q : Nat), (txt n).length - i < m → i ≤ (txt n).length → q ≤ xs.length → pLit xs ((txt n).drop i) q = P → Ex l mTr_passes D R A (xQ D A (fun v S => v = some (.int (b32 P.1)) ∧ S = [sTr a tx dr P.2 f t ch nu px py, Cx])) R.cells R.slots 2 [(2, .int (nI i)), (0, .ref a), (1, .ref (D.2.2.2.1 n))] [] [sTr a tx dr q f t ch nu px py, Cx] 0 0 := by
    intro m
    induction m with
    | zero => intro i q h; omega
    | succ m ih =>
      intro i q hm hi hq hPq
      refine Ex.p rfl ?_
      refine Ex.p rfl ?_
      refine Ex.cvS (Mc := mJSt_length) (Rc := rm 1 0 0) (t := n) (As := []) (rest := [.int (nI i)]) (ct_length ht (rm_ok _ _ _)) ht rfl rfl lk_7_138 lcJSt_length rfl ⟨by dsimp only [rm]; omega, by show 8 + (1 + 11) + 40 ≤ R.locals; omega⟩ (Nat.le_of_ble_eq_true rfl) (by dsimp only [rm]; omega) (by dsimp only [rm]; omega) ?_
      rintro v S1 ⟨rfl, rfl⟩
      refine Ex.br rfl (fun c1 => ?_) (fun c1 => ?_)
      · rw [nI_leI (by omega) (by omega)] at c1
        rw [show i = (txt n).length by omega, List.drop_length] at hPq
        have hPq : (true, q) = P := hPq
        subst hPq
        refine Ex.p rfl ?_
        exact Ex.zret rfl rfl (Or.inr rfl) (Nat.zero_le _) (Nat.zero_le _) rfl ⟨rfl, rfl⟩
      · rw [nI_leI (by omega) (by omega)] at c1
        have hi9 : i < (txt n).length := by omega
        rw [List.drop_eq_getElem_cons hi9] at hPq
        have hPq : (if gt xs q = (txt n)[i] then pLit xs ((txt n).drop (i + 1)) (q + 1) else (false, q)) = P := hPq
        refine Ex.p rfl ?_
        refine Ex.gf 0 0 rfl rfl rfl ?_
        refine Ex.p rfl ?_
        refine Ex.gf 0 0 rfl rfl rfl ?_
        refine Ex.cv (Mc := mRo_get) (Rc := rm 0 0 0) (As := [.int (nI q)]) (rest := []) (Sr := [sTr a tx dr q f t ch nu px py]) (ic := 1) (jc := 0) (ci := 5) [1] [0] (ct_Ro_get hx) rfl lk_7_50 lcRo_get rfl rfl rfl rfl rfl (by decide) rfl (by rw [eC]; rfl) rfl (by decide) ⟨by dsimp only [rm]; omega, by show 8 + (2 + 11) + 0 ≤ R.locals; omega⟩ (Nat.le_of_ble_eq_true rfl) (by dsimp only [rm]; omega) (by dsimp only [rm]; omega) ?_
        rintro v S1 ⟨rfl, rfl⟩
        rw [rget_gt (by omega)]
        refine Ex.p rfl ?_
        refine Ex.p rfl ?_
        refine Ex.cvS (Mc := mJSt_charAt) (Rc := rm 3 0 0) (t := n) (As := [.int (nI i)]) (rest := [.int (gt xs q)]) (ct_charAt ht hi9 (rm_ok _ _ _)) ht rfl rfl lk_7_144 lcJSt_charAt rfl ⟨by dsimp only [rm]; omega, by show 8 + (2 + 11) + 120 ≤ R.locals; omega⟩ (Nat.le_of_ble_eq_true rfl) (by dsimp only [rm]; omega) (by dsimp only [rm]; omega) ?_
        rintro v S1 ⟨rfl, rfl⟩
        rw [show (txt n).getD i 0 = (txt n)[i] by rw [List.getD_eq_getElem?_getD, List.getElem?_eq_getElem hi9]; rfl]
        refine Ex.br rfl (fun c2 => ?_) (fun c2 => ?_)
        · have c2 : gt xs q = (txt n)[i] := c2
          rw [if_pos c2] at hPq
          have hlt : q < xs.length := gt_lt (by rw [c2]; exact txt_pos n ht _ (List.getElem_mem hi9))
          refine Ex.p rfl ?_
          refine Ex.p rfl ?_
          refine Ex.gf 0 0 rfl rfl rfl ?_
          refine Ex.p rfl ?_
          refine Ex.p rfl ?_
          rw [i_add1]
          refine Ex.pf 0 0 rfl rfl rfl rfl rfl rfl ?_
          refine Ex.p rfl ?_
          refine Ex.p rfl ?_
          rw [i_add1]
          exact ih (i + 1) (q + 1) (by omega) (by omega) (by omega) hPq
        · have c2 : ¬ gt xs q = (txt n)[i] := c2
          rw [if_neg c2] at hPq
          subst hPq
          refine Ex.p rfl ?_
          exact Ex.zret rfl rfl (Or.inl rfl) (Nat.zero_le _) (Nat.zero_le _) rfl ⟨rfl, rfl⟩
  refine Ex.p rfl ?_
  refine Ex.p rfl ?_
  exact loop ((txt n).length + 1) 0 p (by omega) (by omega) hp hP
end R1
end
section
/-! TextReader: readPart, readPlace -/
theorem dg_of {c : Int32} (h : isDg c = true) : ∃ j : Nat, j ≤ 9 ∧ c = nI (48 + j) ∧ (c.toInt - 48).toNat = j := by
  have h : 48 ≤ c.toInt ∧ c.toInt ≤ 57 := of_decide_eq_true h
  refine ⟨(c.toInt - 48).toNat, by omega, Int32.toInt_inj.mp ?_, rfl⟩
  rw [nI_toInt (by omega)]
  omega
theorem dg_step (v j : Nat) : nI v * (Int8.ofInt 10).toInt32 + nI (48 + j) - (Int8.ofInt 48).toInt32 = nI (v * 10 + j) := by
  rw [show (Int8.ofInt 10).toInt32 = nI 10 from rfl, show (Int8.ofInt 48).toInt32 = nI 48 from rfl, pk_mul, nI_add, show v * 10 + (48 + j) = (v * 10 + j) + 48 by omega, ← nI_add, Int32.add_sub_cancel]
section R2
variable {l : Launch} {D : xD} {R : Room}
theorem ct_Tr_readPart {a tx dr p cp L : Nat} {f t ch nu px py c : Int32} {sg : Bool} {xs : List Int32} {Cx : va_W} (hx : IsRow D tx L cp xs Cx) (hc : c ≠ -1) (hp : p ≤ xs.length) (hr : rmOk R 1 0 0) : Ct l mTr_readPart D R [.ref a, .int c, .int (b32 sg)] [sTr a tx dr p f t ch nu px py, Cx] (fun v S => v = some (.int (b32 (pPart xs c sg p).1.isSome)) ∧ ∃ nu', S = [sTr a tx dr (pPart xs c sg p).2 f t ch nu' px py, Cx] ∧ ∀ x, (pPart xs c sg p).1 = some x → nu' = x) := by
  obtain ⟨r1, r2, r3, r4⟩ := hr
  obtain ⟨arr, fx, eC, x1, x2, x3, x4, x5, x6⟩ := id hx
  generalize hP : pPart xs c sg p = P
  unfold pPart at hP
  refine Ct.of rfl (by decide) tkTr_readPart (Nat.le_of_ble_eq_true rfl) (fun A => ?_)
  generalize hQ : (fun (v : Option Value) S => v = some (.int (b32 P.1.isSome)) ∧ ∃ nu', S = [sTr a tx dr P.2 f t ch nu' px py, Cx] ∧ ∀ x, P.1 = some x → nu' = x) = Q
  have loop : ∀ (ng : Bool) (q0 : Nat), pNumAt xs ng q0 = P → ∀ (m d q v : Nat), 7 - d < m → d ≤ 7 → q = q0 + d → q ≤ xs.length → v < 10 ^ d → pDig xs (7 - d) q v = pDig xs 7 q0 0 → ∀ lv9 : List (Nat × Value), (∀ z ∈ [(5, Value.int (nI d)), (4, .int (nI v)), (3, .int (b32 ng)), (0, .ref a)], z ∈ lv9) → Ex l mTr_readPart D R A (xQ D A Q) R.cells R.slots 73 lv9 [] [sTr a tx dr q f t ch nu px py, Cx] 0 0 := by
    intro ng q0 hPP
    have fin : ∀ (d v : Nat), d ≤ 7 → pDig xs 7 q0 0 = (v, q0 + d) → ∀ lv9 : List (Nat × Value), (∀ z ∈ [(5, Value.int (nI d)), (4, .int (nI v)), (3, .int (b32 ng)), (0, .ref a)], z ∈ lv9) → Ex l mTr_readPart D R A (xQ D A Q) R.cells R.slots 135 lv9 [] [sTr a tx dr (q0 + d) f t ch nu px py, Cx] 0 0 := by
      intro d v hd e lv9 hlv
      refine Ex.lv hlv ?_
      have hres : P = (if 0 < d then some (if ng then - nI v else nI v) else none, q0 + d) := by
        rw [← hPP, pNumAt, e]
        by_cases h0 : 0 < d
        · rw [if_pos (show q0 < (v, q0 + d).2 by show q0 < q0 + d; omega), if_pos h0]
        · rw [if_neg (show ¬ q0 < (v, q0 + d).2 by show ¬ q0 < q0 + d; omega), if_neg h0]
      have last : Ex l mTr_readPart D R A (xQ D A Q) R.cells R.slots 151 [(5, Value.int (nI d)), (4, .int (nI v)), (3, .int (b32 ng)), (0, .ref a)] [] [sTr a tx dr (q0 + d) f t ch (if ng then - nI v else nI v) px py, Cx] 0 0 := by
        refine Ex.p rfl ?_
        refine Ex.br rfl (fun c1 => ?_) (fun c1 => ?_)
        · have c1 : nI d ≤ nI 0 := c1
          rw [nI_leI (by omega) (by omega)] at c1
          refine Ex.p rfl ?_
          refine Ex.zret rfl rfl (Or.inl rfl) (Nat.zero_le _) (Nat.zero_le _) rfl ?_
          subst hQ
          rw [hres, if_neg (by omega)]
          exact ⟨rfl, _, rfl, fun x h => by cases h⟩
        · have c1 : ¬ nI d ≤ nI 0 := c1
          rw [nI_leI (by omega) (by omega)] at c1
          refine Ex.p rfl ?_
          refine Ex.p rfl ?_
          refine Ex.zret rfl rfl (Or.inr rfl) (Nat.zero_le _) (Nat.zero_le _) rfl ?_
          subst hQ
          rw [hres, if_pos (by omega)]
          exact ⟨rfl, _, rfl, fun x h => by cases h; rfl⟩
      refine Ex.p rfl ?_
      refine Ex.p rfl ?_
      cases ng with
      | true =>
        refine Ex.br rfl (fun c => absurd c (by decide)) (fun _ => ?_)
        refine Ex.p rfl ?_
        refine Ex.p rfl ?_
        refine Ex.p rfl ?_
        refine Ex.pf 0 0 rfl rfl rfl rfl rfl rfl ?_
        exact last
      | false =>
        refine Ex.br rfl (fun _ => ?_) (fun c => absurd rfl c)
        refine Ex.p rfl ?_
        refine Ex.pf 0 0 rfl rfl rfl rfl rfl rfl ?_
        exact last
    intro m
    induction m with
    | zero => intro d q v h; omega
    | succ m ih =>
      intro d q v hm hd hqd hq hv hdig lv9 hlv
      refine Ex.lv hlv ?_
      refine Ex.p rfl ?_
      refine Ex.p rfl ?_
      refine Ex.br rfl (fun c1 => ?_) (fun c1 => ?_)
      · have c1 : nI 7 ≤ nI d := c1
        rw [nI_leI (by omega) (by omega)] at c1
        have hd7 : d = 7 := by omega
        subst hd7
        subst hqd
        exact fin 7 v (Nat.le_refl _) (hdig.symm) _ (fun z h => h)
      · have c1 : ¬ nI 7 ≤ nI d := c1
        rw [nI_leI (by omega) (by omega)] at c1
        rw [show 7 - d = (7 - (d + 1)) + 1 by omega] at hdig
        have hdig : (if isDg (gt xs q) then pDig xs (7 - (d + 1)) (q + 1) (v * 10 + ((gt xs q).toInt - 48).toNat) else (v, q)) = pDig xs 7 q0 0 := hdig
        refine Ex.p rfl ?_
        refine Ex.gf 0 0 rfl rfl rfl ?_
        refine Ex.p rfl ?_
        refine Ex.gf 0 0 rfl rfl rfl ?_
        refine Ex.cv (Mc := mRo_get) (Rc := rm 0 0 0) (As := [.int (nI q)]) (rest := []) (Sr := [sTr a tx dr q f t ch nu px py]) (ic := 1) (jc := 0) (ci := 5) [1] [0] (ct_Ro_get hx) rfl lk_7_50 lcRo_get rfl rfl rfl rfl rfl (by decide) rfl (by rw [eC]; rfl) rfl (by decide) ⟨by dsimp only [rm]; omega, by show 8 + (2 + 11) + 0 ≤ R.locals; omega⟩ (Nat.le_of_ble_eq_true rfl) (by dsimp only [rm]; omega) (by dsimp only [rm]; omega) ?_
        rintro w S1 ⟨rfl, rfl⟩
        rw [rget_gt (by omega)]
        refine Ex.cs0 (Mc := mTr_isDigit) (Rc := rm 0 0 0) (As := [.int (gt xs q)]) (rest := []) ct_Tr_isDigit rfl lk_7_135 lcTr_isDigit rfl ⟨by dsimp only [rm]; omega, by show 8 + (1 + 11) + 0 ≤ R.locals; omega⟩ (Nat.zero_le _) (Nat.zero_le _) (Nat.zero_le _) ?_
        rintro w S1 ⟨rfl, rfl⟩
        cases hg : isDg (gt xs q) with
        | false =>
          rw [hg] at hdig
          have hdig : (v, q) = pDig xs 7 q0 0 := hdig
          refine Ex.br rfl (fun _ => ?_) (fun c => absurd rfl c)
          subst hqd
          exact fin d v hd hdig.symm _ (fun z h => h)
        | true =>
          rw [hg] at hdig
          have hdig : pDig xs (7 - (d + 1)) (q + 1) (v * 10 + ((gt xs q).toInt - 48).toNat) = pDig xs 7 q0 0 := hdig
          have hlt : q < xs.length := gt_lt (fun e => by rw [e] at hg; exact absurd hg (by decide))
          obtain ⟨j, hj, ej, ej2⟩ := dg_of hg
          rw [ej2] at hdig
          refine Ex.br rfl (fun c => absurd c (by decide)) (fun _ => ?_)
          refine Ex.p rfl ?_
          refine Ex.p rfl ?_
          refine Ex.p rfl ?_
          refine Ex.p rfl ?_
          refine Ex.gf 0 0 rfl rfl rfl ?_
          refine Ex.p rfl ?_
          refine Ex.gf 0 0 rfl rfl rfl ?_
          refine Ex.cv (Mc := mRo_get) (Rc := rm 0 0 0) (As := [.int (nI q)]) (rest := [.int (nI v * (Int8.ofInt 10).toInt32)]) (Sr := [sTr a tx dr q f t ch nu px py]) (ic := 1) (jc := 0) (ci := 5) [1] [0] (ct_Ro_get hx) rfl lk_7_50 lcRo_get rfl rfl rfl rfl rfl (by decide) rfl (by rw [eC]; rfl) rfl (by decide) ⟨by dsimp only [rm]; omega, by show 8 + (2 + 11) + 0 ≤ R.locals; omega⟩ (Nat.le_of_ble_eq_true rfl) (by dsimp only [rm]; omega) (by dsimp only [rm]; omega) ?_
          rintro w S1 ⟨rfl, rfl⟩
          rw [rget_gt (by omega), ej]
          refine Ex.p rfl ?_
          refine Ex.p rfl ?_
          refine Ex.p rfl ?_
          rw [dg_step]
          refine Ex.p rfl ?_
          refine Ex.p rfl ?_
          refine Ex.p rfl ?_
          refine Ex.gf 0 0 rfl rfl rfl ?_
          refine Ex.p rfl ?_
          refine Ex.p rfl ?_
          rw [i_add1]
          refine Ex.pf 0 0 rfl rfl rfl rfl rfl rfl ?_
          refine Ex.p rfl ?_
          refine Ex.p rfl ?_
          rw [i_add1]
          refine ih (d + 1) (q + 1) (v * 10 + j) (by omega) (by omega) (by omega) (by omega) (by rw [Nat.pow_succ]; omega) hdig _ (fun z h => ?_)
          simp only [List.mem_cons, List.not_mem_nil, or_false] at h
          rcases h with rfl | rfl | rfl | rfl <;> simp [xs1, Value.category]
  have start : ∀ (ng : Bool) (q0 : Nat), pNumAt xs ng q0 = P → q0 ≤ xs.length → ∀ lv9 : List (Nat × Value), (∀ z ∈ [(3, .int (b32 ng)), (0, .ref a)], z ∈ lv9) → Ex l mTr_readPart D R A (xQ D A Q) R.cells R.slots 67 lv9 [] [sTr a tx dr q0 f t ch nu px py, Cx] 0 0 := by
    intro ng q0 hPP hq0 lv9 hlv
    refine Ex.lv hlv ?_
    refine Ex.p rfl ?_
    refine Ex.p rfl ?_
    refine Ex.p rfl ?_
    refine Ex.p rfl ?_
    refine loop ng q0 hPP 8 0 q0 0 (by omega) (by omega) rfl hq0 (by decide) rfl _ (fun z h => ?_)
    simp only [List.mem_cons, List.not_mem_nil, or_false] at h
    rcases h with rfl | rfl | rfl | rfl <;> simp [xs1, Value.category, nI]
  refine Ex.p rfl ?_
  refine Ex.gf 0 0 rfl rfl rfl ?_
  refine Ex.p rfl ?_
  refine Ex.gf 0 0 rfl rfl rfl ?_
  refine Ex.cv (Mc := mRo_get) (Rc := rm 0 0 0) (As := [.int (nI p)]) (rest := []) (Sr := [sTr a tx dr p f t ch nu px py]) (ic := 1) (jc := 0) (ci := 5) [1] [0] (ct_Ro_get hx) rfl lk_7_50 lcRo_get rfl rfl rfl rfl rfl (by decide) rfl (by rw [eC]; rfl) rfl (by decide) ⟨by dsimp only [rm]; omega, by show 8 + (2 + 11) + 0 ≤ R.locals; omega⟩ (Nat.le_of_ble_eq_true rfl) (by dsimp only [rm]; omega) (by dsimp only [rm]; omega) ?_
  rintro w S1 ⟨rfl, rfl⟩
  rw [rget_gt (by omega)]
  refine Ex.p rfl ?_
  refine Ex.br rfl (fun c1 => ?_) (fun c1 => ?_)
  · have c1 : gt xs p = c := c1
    rw [if_pos c1] at hP
    unfold pNum at hP
    have hlt : p < xs.length := gt_lt (by rw [c1]; exact hc)
    refine Ex.p rfl ?_
    refine Ex.p rfl ?_
    refine Ex.gf 0 0 rfl rfl rfl ?_
    refine Ex.p rfl ?_
    refine Ex.p rfl ?_
    rw [i_add1]
    refine Ex.pf 0 0 rfl rfl rfl rfl rfl rfl ?_
    refine Ex.p rfl ?_
    cases sg with
    | false =>
      have hng : pNeg xs false (p + 1) = false := rfl
      rw [hng] at hP
      refine Ex.br rfl (fun _ => ?_) (fun c => absurd rfl c)
      refine Ex.p rfl ?_
      refine Ex.p rfl ?_
      refine Ex.p rfl ?_
      refine Ex.br rfl (fun _ => ?_) (fun c => absurd rfl c)
      refine start false (p + 1) hP hlt _ (fun z h => ?_)
      simp only [List.mem_cons, List.not_mem_nil, or_false] at h
      rcases h with rfl | rfl <;> first | (simp [xs1, lv_args, Value.category, b32]; done) | (simp [xs1, lv_args, Value.category, b32]; decide)
    | true =>
      refine Ex.br rfl (fun c => absurd c (by decide)) (fun _ => ?_)
      refine Ex.p rfl ?_
      refine Ex.gf 0 0 rfl rfl rfl ?_
      refine Ex.p rfl ?_
      refine Ex.gf 0 0 rfl rfl rfl ?_
      refine Ex.cv (Mc := mRo_get) (Rc := rm 0 0 0) (As := [.int (nI (p + 1))]) (rest := []) (Sr := [sTr a tx dr (p + 1) f t ch nu px py]) (ic := 1) (jc := 0) (ci := 5) [1] [0] (ct_Ro_get hx) rfl lk_7_50 lcRo_get rfl rfl rfl rfl rfl (by decide) rfl (by rw [eC]; rfl) rfl (by decide) ⟨by dsimp only [rm]; omega, by show 8 + (2 + 11) + 0 ≤ R.locals; omega⟩ (Nat.le_of_ble_eq_true rfl) (by dsimp only [rm]; omega) (by dsimp only [rm]; omega) ?_
      rintro w S1 ⟨rfl, rfl⟩
      rw [rget_gt (by omega)]
      refine Ex.p rfl ?_
      refine Ex.br rfl (fun c2 => ?_) (fun c2 => ?_)
      · have c2 : ¬ gt xs (p + 1) = 45 := c2
        have hng : pNeg xs true (p + 1) = false := by unfold pNeg; rw [decide_eq_false c2]; rfl
        rw [hng] at hP
        refine Ex.p rfl ?_
        refine Ex.p rfl ?_
        refine Ex.p rfl ?_
        refine Ex.br rfl (fun _ => ?_) (fun c => absurd rfl c)
        refine start false (p + 1) hP hlt _ (fun z h => ?_)
        simp only [List.mem_cons, List.not_mem_nil, or_false] at h
        rcases h with rfl | rfl <;> first | (simp [xs1, lv_args, Value.category, b32]; done) | (simp [xs1, lv_args, Value.category, b32]; decide)
      · have c2 : gt xs (p + 1) = 45 := Decidable.byContradiction c2
        have hng : pNeg xs true (p + 1) = true := by unfold pNeg; rw [decide_eq_true c2]; rfl
        rw [hng] at hP
        have hlt2 : p + 1 < xs.length := gt_lt (by rw [c2]; decide)
        refine Ex.p rfl ?_
        refine Ex.p rfl ?_
        refine Ex.p rfl ?_
        refine Ex.p rfl ?_
        refine Ex.br rfl (fun c => absurd c (by decide)) (fun _ => ?_)
        refine Ex.p rfl ?_
        refine Ex.p rfl ?_
        refine Ex.gf 0 0 rfl rfl rfl ?_
        refine Ex.p rfl ?_
        refine Ex.p rfl ?_
        rw [i_add1]
        refine Ex.pf 0 0 rfl rfl rfl rfl rfl rfl ?_
        refine start true (p + 1 + 1) hP hlt2 _ (fun z h => ?_)
        simp only [List.mem_cons, List.not_mem_nil, or_false] at h
        rcases h with rfl | rfl <;> first | (simp [xs1, lv_args, Value.category, b32]; done) | (simp [xs1, lv_args, Value.category, b32]; decide)
  · have c1 : ¬ gt xs p = c := c1
    rw [if_neg c1] at hP
    subst hP
    refine Ex.p rfl ?_
    refine Ex.zret rfl rfl (Or.inl rfl) (Nat.zero_le _) (Nat.zero_le _) rfl ?_
    subst hQ
    exact ⟨rfl, nu, rfl, fun x h => by cases h⟩
/-- readPlace -/
theorem ct_Tr_readPlace {a tx dr p cp L : Nat} {f t ch nu px py : Int32} {xs : List Int32} {Cx : va_W} (hx : IsRow D tx L cp xs Cx) (hp : p ≤ xs.length) (hr : rmOk R 2 0 0) : Ct l mTr_readPlace D R [.ref a] [sTr a tx dr p f t ch nu px py, Cx] (fun v S => v = some (.int (b32 (pPlace xs p).1.isSome)) ∧ ∃ nu' px' py', S = [sTr a tx dr (pPlace xs p).2 f t ch nu' px' py', Cx] ∧ ∀ x, (pPlace xs p).1 = some x → px' = x.1 ∧ py' = x.2) := by
  obtain ⟨r1, r2, r3, r4⟩ := hr
  refine Ct.of rfl (by decide) tkTr_readPlace (Nat.le_of_ble_eq_true rfl) (fun A => ?_)
  refine Ex.p rfl ?_
  refine Ex.p rfl ?_
  refine Ex.p rfl ?_
  refine Ex.cv (Mc := mTr_readPart) (Rc := rm 1 0 0) (As := [.int 88, .int (b32 true)]) (rest := []) (Sr := []) (ic := 0) (jc := 0) (ci := 7) [0, 1] [] (ct_Tr_readPart hx (by decide) hp (rm_ok _ _ _)) rfl lk_7_67 lcTr_readPart rfl rfl rfl rfl rfl (by decide) rfl rfl rfl (by decide) ⟨by dsimp only [rm]; omega, by show 8 + (6 + 11) + 40 ≤ R.locals; omega⟩ (Nat.le_of_ble_eq_true rfl) (by dsimp only [rm]; omega) (by dsimp only [rm]; omega) ?_
  rintro w S1 ⟨rfl, nu1, rfl, hnu1⟩
  have hle := pPart_le (xs := xs) (c := 88) (sg := true) (by decide) hp
  unfold pPlace
  generalize pPart xs 88 true p = P1 at hnu1 hle
  obtain ⟨o1, p1⟩ := P1
  cases o1 with
  | none =>
    refine Ex.br rfl (fun c => absurd rfl c) (fun _ => ?_)
    refine Ex.p rfl ?_
    exact Ex.zret rfl rfl (Or.inl rfl) (Nat.zero_le _) (Nat.zero_le _) rfl ⟨rfl, _, _, _, rfl, fun x h => by cases h⟩
  | some x1 =>
    have e1 := hnu1 x1 rfl
    subst e1
    refine Ex.br rfl (fun _ => ?_) (fun c => absurd (show (1 : Int32) ≠ 0 by decide) c)
    refine Ex.p rfl ?_
    refine Ex.p rfl ?_
    refine Ex.gf 0 0 rfl rfl rfl ?_
    refine Ex.pf 0 0 rfl rfl rfl rfl rfl rfl ?_
    refine Ex.p rfl ?_
    refine Ex.p rfl ?_
    refine Ex.p rfl ?_
    refine Ex.cv (Mc := mTr_readPart) (Rc := rm 1 0 0) (As := [.int 89, .int (b32 true)]) (rest := []) (Sr := []) (ic := 0) (jc := 0) (ci := 7) [0, 1] [] (ct_Tr_readPart hx (by decide) hle.2.1 (rm_ok _ _ _)) rfl lk_7_67 lcTr_readPart rfl rfl rfl rfl rfl (by decide) rfl rfl rfl (by decide) ⟨by dsimp only [rm]; omega, by show 8 + (6 + 11) + 40 ≤ R.locals; omega⟩ (Nat.le_of_ble_eq_true rfl) (by dsimp only [rm]; omega) (by dsimp only [rm]; omega) ?_
    rintro w S1 ⟨rfl, nu2, rfl, hnu2⟩
    dsimp only
    generalize pPart xs 89 true p1 = P2 at hnu2
    obtain ⟨o2, p2⟩ := P2
    cases o2 with
    | none =>
      refine Ex.br rfl (fun c => absurd rfl c) (fun _ => ?_)
      refine Ex.p rfl ?_
      exact Ex.zret rfl rfl (Or.inl rfl) (Nat.zero_le _) (Nat.zero_le _) rfl ⟨rfl, _, _, _, rfl, fun x h => by cases h⟩
    | some x2 =>
      have e2 := hnu2 x2 rfl
      subst e2
      refine Ex.br rfl (fun _ => ?_) (fun c => absurd (show (1 : Int32) ≠ 0 by decide) c)
      refine Ex.p rfl ?_
      refine Ex.p rfl ?_
      refine Ex.gf 0 0 rfl rfl rfl ?_
      refine Ex.pf 0 0 rfl rfl rfl rfl rfl rfl ?_
      refine Ex.p rfl ?_
      exact Ex.zret rfl rfl (Or.inr rfl) (Nat.zero_le _) (Nat.zero_le _) rfl ⟨rfl, _, _, _, rfl, fun x h => by cases h; exact ⟨rfl, rfl⟩⟩
end R2
end
section
/-! TextReader: readLayerLine, readChoiceLine -/
section R3
variable {l : Launch} {D : xD} {R : Room}
theorem ct_Tr_readLayerLine {a tx dr p cp L : Nat} {f t ch nu px py : Int32} {xs : List Int32} {Cx : va_W} (hx : IsRow D tx L cp xs Cx) (hp : p ≤ xs.length) (hr : rmOk R 5 0 0) : Ct l mTr_readLayerLine D R [.ref a] [sTr a tx dr p f t ch nu px py, Cx] (fun v S => v = some (.int (b32 (pLayerLine xs p).1.isSome)) ∧ ∃ f' t' nu', S = [sTr a tx dr (pLayerLine xs p).2 f' t' ch nu' px py, Cx] ∧ ∀ x, (pLayerLine xs p).1 = some x → f' = x.1 ∧ t' = x.2) := by
  obtain ⟨r1, r2, r3, r4⟩ := hr
  refine Ct.of rfl (by decide) tkTr_readLayerLine (Nat.le_of_ble_eq_true rfl) (fun A => ?_)
  refine Ex.p rfl ?_
  refine Ex.gf 0 0 rfl rfl rfl ?_
  refine Ex.p rfl ?_
  refine Ex.p rfl ?_
  refine Ex.p rfl ?_
  refine Ex.p rfl ?_
  refine Ex.cv (Mc := mTr_readPart) (Rc := rm 1 0 0) (As := [.int 76, .int (b32 false)]) (rest := []) (Sr := []) (ic := 0) (jc := 0) (ci := 7) [0, 1] [] (ct_Tr_readPart hx (by decide) hp (rm_ok _ _ _)) rfl lk_7_67 lcTr_readPart rfl rfl rfl rfl rfl (by decide) rfl rfl rfl (by decide) ⟨by dsimp only [rm]; omega, by show 8 + (6 + 11) + 40 ≤ R.locals; omega⟩ (Nat.le_of_ble_eq_true rfl) (by dsimp only [rm]; omega) (by dsimp only [rm]; omega) ?_
  rintro w S1 ⟨rfl, nu1, rfl, hnu1⟩
  have hle := pPart_le (xs := xs) (c := 76) (sg := false) (by decide) hp
  unfold pLayerLine
  generalize pPart xs 76 false p = P1 at hnu1 hle
  obtain ⟨o1, p1⟩ := P1
  cases o1 with
  | none =>
    refine Ex.br rfl (fun c => absurd rfl c) (fun _ => ?_)
    refine Ex.p rfl ?_
    exact Ex.zret rfl rfl (Or.inl rfl) (Nat.zero_le _) (Nat.zero_le _) rfl ⟨rfl, _, _, _, rfl, fun x h => by cases h⟩
  | some x1 =>
    have e1 := hnu1 x1 rfl
    subst e1
    refine Ex.br rfl (fun _ => ?_) (fun c => absurd (show (1 : Int32) ≠ 0 by decide) c)
    refine Ex.p rfl ?_
    refine Ex.p rfl ?_
    refine Ex.gf 0 0 rfl rfl rfl ?_
    refine Ex.pf 0 0 rfl rfl rfl rfl rfl rfl ?_
    refine Ex.p rfl ?_
    refine Ex.p rfl ?_
    refine Ex.p rfl ?_
    refine Ex.cv (Mc := mTr_readPart) (Rc := rm 1 0 0) (As := [.int 44, .int (b32 false)]) (rest := []) (Sr := []) (ic := 0) (jc := 0) (ci := 7) [0, 1] [] (ct_Tr_readPart hx (by decide) hle.2.1 (rm_ok _ _ _)) rfl lk_7_67 lcTr_readPart rfl rfl rfl rfl rfl (by decide) rfl rfl rfl (by decide) ⟨by dsimp only [rm]; omega, by show 8 + (6 + 11) + 40 ≤ R.locals; omega⟩ (Nat.le_of_ble_eq_true rfl) (by dsimp only [rm]; omega) (by dsimp only [rm]; omega) ?_
    rintro w S1 ⟨rfl, nu2, rfl, hnu2⟩
    have hle2 := pPart_le (xs := xs) (c := 44) (sg := false) (by decide) hle.2.1
    dsimp only at hle2 hnu2 ⊢
    generalize pPart xs 44 false p1 = P2 at hnu2 hle2
    obtain ⟨o2, p2⟩ := P2
    cases o2 with
    | none =>
      refine Ex.br rfl (fun _ => ?_) (fun c => absurd rfl c)
      refine Ex.p rfl ?_
      exact Ex.zret rfl rfl (Or.inl rfl) (Nat.zero_le _) (Nat.zero_le _) rfl ⟨rfl, _, _, _, rfl, fun x h => by cases h⟩
    | some x2 =>
      have e2 := hnu2 x2 rfl
      subst e2
      refine Ex.br rfl (fun c => absurd c (show (1 : Int32) ≠ 0 by decide)) (fun _ => ?_)
      refine Ex.p rfl ?_
      refine Ex.ldcS rfl ?_
      refine Ex.cv (Mc := mTr_passes) (Rc := rm 4 0 0) (As := [.ref (D.2.2.2.1 1)]) (rest := []) (Sr := []) (ic := 0) (jc := 0) (ci := 7) [0, 1] [] (ct_Tr_passes hx (by decide) hle2.2.1 (rm_ok _ _ _)) rfl lk_7_43 lcTr_passes rfl rfl rfl rfl rfl (by decide) rfl rfl rfl (by decide) ⟨by dsimp only [rm]; omega, by show 8 + (3 + 11) + 160 ≤ R.locals; omega⟩ (Nat.le_of_ble_eq_true rfl) (by dsimp only [rm]; omega) (by dsimp only [rm]; omega) ?_
      rintro w S1 ⟨rfl, rfl⟩
      rw [show txt 1 = [10] from rfl]
      dsimp only
      generalize pLit xs [10] p2 = P3
      obtain ⟨o3, p3⟩ := P3
      cases o3 with
      | false =>
        refine Ex.br rfl (fun c => absurd rfl c) (fun _ => ?_)
        refine Ex.p rfl ?_
        exact Ex.zret rfl rfl (Or.inl rfl) (Nat.zero_le _) (Nat.zero_le _) rfl ⟨rfl, _, _, _, rfl, fun x h => by cases h⟩
      | true =>
        refine Ex.br rfl (fun _ => ?_) (fun c => absurd (show (1 : Int32) ≠ 0 by decide) c)
        refine Ex.p rfl ?_
        refine Ex.p rfl ?_
        refine Ex.gf 0 0 rfl rfl rfl ?_
        refine Ex.pf 0 0 rfl rfl rfl rfl rfl rfl ?_
        dsimp only
        generalize hQ : (fun (v : Option Value) S => v = some (.int (b32 (if (0 ≤ nu1.toInt ∧ nu1.toInt ≤ 7) ∧ (0 ≤ nu2.toInt ∧ nu2.toInt ≤ 7) ∧ nu1 ≤ nu2 then (some (nu1, nu2), p3) else (none, p)).1.isSome)) ∧ ∃ f' t' nu', S = [sTr a tx dr (if (0 ≤ nu1.toInt ∧ nu1.toInt ≤ 7) ∧ (0 ≤ nu2.toInt ∧ nu2.toInt ≤ 7) ∧ nu1 ≤ nu2 then (some (nu1, nu2), p3) else (none, p)).2 f' t' ch nu' px py, Cx] ∧ ∀ x, (if (0 ≤ nu1.toInt ∧ nu1.toInt ≤ 7) ∧ (0 ≤ nu2.toInt ∧ nu2.toInt ≤ 7) ∧ nu1 ≤ nu2 then (some (nu1, nu2), p3) else (none, p)).1 = some x → f' = x.1 ∧ t' = x.2) = Q
        have fin : ∀ b : Bool, b = decide ((0 ≤ nu1.toInt ∧ nu1.toInt ≤ 7) ∧ (0 ≤ nu2.toInt ∧ nu2.toInt ≤ 7) ∧ nu1 ≤ nu2) → Ex l mTr_readLayerLine D R A (xQ D A Q) R.cells R.slots 91 [(1, .int (nI p)), (0, .ref a)] [.int (b32 b), .ref a] [sTr a tx dr p3 nu1 nu2 ch nu2 px py, Cx] 0 0 := by
          intro b hb
          refine Ex.p rfl ?_
          refine Ex.cv (Mc := mTr_can) (Rc := rm 0 0 0) (As := [.int (b32 b), .int (nI p)]) (rest := []) (Sr := [Cx]) (ic := 0) (jc := 0) (ci := 7) [0] [1] (ct_Tr_can) rfl lk_7_86 lcTr_can rfl rfl rfl rfl rfl (by decide) rfl rfl rfl (by decide) ⟨by dsimp only [rm]; omega, by show 8 + (3 + 11) + 0 ≤ R.locals; omega⟩ (Nat.le_of_ble_eq_true rfl) (by dsimp only [rm]; omega) (by dsimp only [rm]; omega) ?_
          rintro w S1 ⟨rfl, rfl⟩
          refine Ex.sub (S' := [sTr a tx dr (if b then p3 else p) nu1 nu2 ch nu2 px py, Cx]) [1, 0] rfl rfl ?_
          refine Ex.zret rfl rfl (b32_01 b) (Nat.zero_le _) (Nat.zero_le _) rfl ?_
          subst hQ
          by_cases h9 : (0 ≤ nu1.toInt ∧ nu1.toInt ≤ 7) ∧ (0 ≤ nu2.toInt ∧ nu2.toInt ≤ 7) ∧ nu1 ≤ nu2
          · rw [decide_eq_true h9] at hb
            subst hb
            rw [if_pos h9]
            exact ⟨rfl, _, _, _, rfl, fun x h => by cases h; exact ⟨rfl, rfl⟩⟩
          · rw [decide_eq_false h9] at hb
            subst hb
            rw [if_neg h9]
            exact ⟨rfl, _, _, _, rfl, fun x h => by cases h⟩
        refine Ex.p rfl ?_
        refine Ex.p rfl ?_
        refine Ex.gf 0 0 rfl rfl rfl ?_
        refine Ex.cs0N (Mc := mDa_isLayer) (Rc := rm 0 0 0) (As := [.int nu1]) (rest := [.ref a]) ct_isLayer rfl ln_7_82 lcDa_isLayer rfl ⟨by dsimp only [rm]; omega, by show 8 + (1 + 11) + 0 ≤ R.locals; omega⟩ (Nat.le_of_ble_eq_true rfl) (Nat.zero_le _) (Nat.zero_le _) ?_
        rintro w S1 ⟨rfl, rfl⟩
        by_cases g1 : 0 ≤ nu1.toInt ∧ nu1.toInt ≤ 7
        · rw [decide_eq_true g1]
          refine Ex.br rfl (fun c => absurd c (show (1 : Int32) ≠ 0 by decide)) (fun _ => ?_)
          refine Ex.p rfl ?_
          refine Ex.gf 0 0 rfl rfl rfl ?_
          refine Ex.cs0N (Mc := mDa_isLayer) (Rc := rm 0 0 0) (As := [.int nu2]) (rest := [.ref a]) ct_isLayer rfl ln_7_82 lcDa_isLayer rfl ⟨by dsimp only [rm]; omega, by show 8 + (1 + 11) + 0 ≤ R.locals; omega⟩ (Nat.le_of_ble_eq_true rfl) (Nat.zero_le _) (Nat.zero_le _) ?_
          rintro w S1 ⟨rfl, rfl⟩
          by_cases g2 : 0 ≤ nu2.toInt ∧ nu2.toInt ≤ 7
          · rw [decide_eq_true g2]
            refine Ex.br rfl (fun c => absurd c (show (1 : Int32) ≠ 0 by decide)) (fun _ => ?_)
            refine Ex.p rfl ?_
            refine Ex.gf 0 0 rfl rfl rfl ?_
            refine Ex.p rfl ?_
            refine Ex.gf 0 0 rfl rfl rfl ?_
            refine Ex.br rfl (fun c3 => ?_) (fun c3 => ?_)
            · have c3 : nu2 < nu1 := c3
              refine Ex.p rfl ?_
              exact fin false (by rw [decide_eq_false (fun q => absurd c3 (Int32.not_lt.mpr q.2.2))])
            · have c3 : ¬ nu2 < nu1 := c3
              refine Ex.p rfl ?_
              refine Ex.p rfl ?_
              exact fin true (by rw [decide_eq_true ⟨g1, g2, Int32.not_lt.mp c3⟩])
          · rw [decide_eq_false g2]
            refine Ex.br rfl (fun _ => ?_) (fun c => absurd rfl c)
            refine Ex.p rfl ?_
            exact fin false (by rw [decide_eq_false (fun q => g2 q.2.1)])
        · rw [decide_eq_false g1]
          refine Ex.br rfl (fun _ => ?_) (fun c => absurd rfl c)
          refine Ex.p rfl ?_
          exact fin false (by rw [decide_eq_false (fun q => g1 q.1)])
theorem ct_Tr_readChoiceLine {a tx d p cp L : Nat} {f t ch nu px py : Int32} {xs : List Int32} {ts : List TV} {hs : List (Nat × HV)} {Cx Cd T Hs : va_W} (hx : IsRow D tx L cp xs Cx) (hd : IsDr D d ts hs Cd T Hs) (hp : p ≤ xs.length) (hr : rmOk R 5 0 0) : Ct l mTr_readChoiceLine D R [.ref a] [sTr a tx d p f t ch nu px py, Cx, Cd] (fun v S => v = some (.int (b32 (pChoice xs ts.length p).1.isSome)) ∧ ∃ ch' nu', S = [sTr a tx d (pChoice xs ts.length p).2 f t ch' nu' px py, Cx, Cd] ∧ ∀ x, (pChoice xs ts.length p).1 = some x → ch' = x) := by
  obtain ⟨r1, r2, r3, r4⟩ := hr
  obtain ⟨ta, ha, ft, fh, eCd, -, -, -, -, h3, h4⟩ := id hd
  refine Ct.of rfl (by decide) tkTr_readChoiceLine (Nat.le_of_ble_eq_true rfl) (fun A => ?_)
  refine Ex.p rfl ?_
  refine Ex.gf 0 0 rfl rfl rfl ?_
  refine Ex.p rfl ?_
  refine Ex.p rfl ?_
  refine Ex.p rfl ?_
  refine Ex.p rfl ?_
  refine Ex.cv (Mc := mTr_readPart) (Rc := rm 1 0 0) (As := [.int 84, .int (b32 false)]) (rest := []) (Sr := [Cd]) (ic := 0) (jc := 0) (ci := 7) [0, 1] [2] (ct_Tr_readPart hx (by decide) hp (rm_ok _ _ _)) rfl lk_7_67 lcTr_readPart rfl rfl rfl rfl rfl (by decide) rfl rfl rfl (by decide) ⟨by dsimp only [rm]; omega, by show 8 + (6 + 11) + 40 ≤ R.locals; omega⟩ (Nat.le_of_ble_eq_true rfl) (by dsimp only [rm]; omega) (by dsimp only [rm]; omega) ?_
  rintro w S1 ⟨rfl, nu1, rfl, hnu1⟩
  have hle := pPart_le (xs := xs) (c := 84) (sg := false) (by decide) hp
  unfold pChoice
  generalize pPart xs 84 false p = P1 at hnu1 hle
  obtain ⟨o1, p1⟩ := P1
  cases o1 with
  | none =>
    refine Ex.br rfl (fun _ => ?_) (fun c => absurd rfl c)
    refine Ex.p rfl ?_
    refine Ex.sub (S' := [sTr a tx d p1 f t ch nu1 px py, Cx, Cd]) [1, 2, 0] rfl rfl ?_
    exact Ex.zret rfl rfl (Or.inl rfl) (Nat.zero_le _) (Nat.zero_le _) rfl ⟨rfl, _, _, rfl, fun x h => by cases h⟩
  | some x1 =>
    have e1 := hnu1 x1 rfl
    subst e1
    refine Ex.br rfl (fun c => absurd c (show (1 : Int32) ≠ 0 by decide)) (fun _ => ?_)
    refine Ex.p rfl ?_
    refine Ex.ldcS rfl ?_
    refine Ex.cv (Mc := mTr_passes) (Rc := rm 4 0 0) (As := [.ref (D.2.2.2.1 1)]) (rest := []) (Sr := [Cd]) (ic := 1) (jc := 0) (ci := 7) [1, 2] [0] (ct_Tr_passes hx (by decide) hle.2.1 (rm_ok _ _ _)) rfl lk_7_43 lcTr_passes rfl rfl rfl rfl rfl (by decide) rfl rfl rfl (by decide) ⟨by dsimp only [rm]; omega, by show 8 + (3 + 11) + 160 ≤ R.locals; omega⟩ (Nat.le_of_ble_eq_true rfl) (by dsimp only [rm]; omega) (by dsimp only [rm]; omega) ?_
    rintro w S1 ⟨rfl, rfl⟩
    rw [show txt 1 = [10] from rfl]
    dsimp only
    generalize pLit xs [10] p1 = P3
    obtain ⟨o3, p3⟩ := P3
    refine Ex.sub (S' := [sTr a tx d p3 f t ch nu1 px py, Cx, Cd]) [1, 2, 0] rfl rfl ?_
    cases o3 with
    | false =>
      refine Ex.br rfl (fun c => absurd rfl c) (fun _ => ?_)
      refine Ex.p rfl ?_
      exact Ex.zret rfl rfl (Or.inl rfl) (Nat.zero_le _) (Nat.zero_le _) rfl ⟨rfl, _, _, rfl, fun x h => by cases h⟩
    | true =>
      refine Ex.br rfl (fun _ => ?_) (fun c => absurd (show (1 : Int32) ≠ 0 by decide) c)
      refine Ex.p rfl ?_
      refine Ex.p rfl ?_
      refine Ex.gf 0 0 rfl rfl rfl ?_
      refine Ex.pf 0 0 rfl rfl rfl rfl rfl rfl ?_
      dsimp only
      generalize hQ : (fun (v : Option Value) S => v = some (.int (b32 (if 0 ≤ nu1.toInt ∧ nu1.toInt < ts.length then (some nu1, p3) else (none, p)).1.isSome)) ∧ ∃ ch' nu', S = [sTr a tx d (if 0 ≤ nu1.toInt ∧ nu1.toInt < ts.length then (some nu1, p3) else (none, p)).2 f t ch' nu' px py, Cx, Cd] ∧ ∀ x, (if 0 ≤ nu1.toInt ∧ nu1.toInt < ts.length then (some nu1, p3) else (none, p)).1 = some x → ch' = x) = Q
      have fin : ∀ b : Bool, b = decide (0 ≤ nu1.toInt ∧ nu1.toInt < ts.length) → Ex l mTr_readChoiceLine D R A (xQ D A Q) R.cells R.slots 54 [(1, .int (nI p)), (0, .ref a)] [.int (b32 b), .ref a] [sTr a tx d p3 f t nu1 nu1 px py, Cx, Cd] 0 0 := by
        intro b hb
        refine Ex.p rfl ?_
        refine Ex.cv (Mc := mTr_can) (Rc := rm 0 0 0) (As := [.int (b32 b), .int (nI p)]) (rest := []) (Sr := [Cx, Cd]) (ic := 0) (jc := 0) (ci := 7) [0] [1, 2] (ct_Tr_can) rfl lk_7_86 lcTr_can rfl rfl rfl rfl rfl (by decide) rfl rfl rfl (by decide) ⟨by dsimp only [rm]; omega, by show 8 + (3 + 11) + 0 ≤ R.locals; omega⟩ (Nat.le_of_ble_eq_true rfl) (by dsimp only [rm]; omega) (by dsimp only [rm]; omega) ?_
        rintro w S1 ⟨rfl, rfl⟩
        refine Ex.sub (S' := [sTr a tx d (if b then p3 else p) f t nu1 nu1 px py, Cx, Cd]) [2, 0, 1] rfl rfl ?_
        refine Ex.zret rfl rfl (b32_01 b) (Nat.zero_le _) (Nat.zero_le _) rfl ?_
        subst hQ
        by_cases h9 : 0 ≤ nu1.toInt ∧ nu1.toInt < ts.length
        · rw [decide_eq_true h9] at hb
          subst hb
          rw [if_pos h9]
          exact ⟨rfl, _, _, rfl, fun x h => by cases h; rfl⟩
        · rw [decide_eq_false h9] at hb
          subst hb
          rw [if_neg h9]
          exact ⟨rfl, _, _, rfl, fun x h => by cases h⟩
      refine Ex.p rfl ?_
      refine Ex.p rfl ?_
      refine Ex.gf 0 0 rfl rfl rfl ?_
      refine Ex.p rfl ?_
      refine Ex.gf 0 0 rfl rfl rfl ?_
      refine Ex.cv (Mc := mDr_toolAt) (Rc := rm 0 0 0) (As := [.int nu1]) (rest := [.ref a]) (Sr := [sTr a tx d p3 f t nu1 nu1 px py, Cx]) (ic := 2) (jc := 0) (ci := 1) [2] [0, 1] (ct_Dr_toolAt hd) rfl lk_7_107 lcDr_toolAt rfl rfl rfl rfl rfl (by decide) rfl (by rw [eCd]; rfl) rfl (by decide) ⟨by dsimp only [rm]; omega, by show 8 + (2 + 11) + 0 ≤ R.locals; omega⟩ (Nat.le_of_ble_eq_true rfl) (by dsimp only [rm]; omega) (by dsimp only [rm]; omega) ?_
      rintro w S1 ⟨rfl, rfl⟩
      by_cases h9 : 0 ≤ nu1.toInt ∧ nu1.toInt < ts.length
      · have hlt : nu1.toInt.toNat < ts.length := by omega
        rw [ixo, if_pos h9.1, List.getElem?_eq_getElem hlt]
        refine Ex.nuR rfl ?_
        refine Ex.p rfl ?_
        refine Ex.p rfl ?_
        exact fin true (by rw [decide_eq_true h9])
      · rw [ixo_none (by omega)]
        refine Ex.nuN rfl rfl ?_
        refine Ex.p rfl ?_
        exact fin false (by rw [decide_eq_false h9])
end R3
end
section
/-! TextReader: readToolLine -/
section R4
variable {l : Launch} {D : xD} {R : Room}
theorem ct_Tr_readToolLine {a tx d p cp L : Nat} {f t ch nu px py : Int32} {xs : List Int32} {ts : List TV} {hs : List (Nat × HV)} {Cx Cd T Hs : va_W} (hx : IsRow D tx L cp xs Cx) (hd : IsDr D d ts hs Cd T Hs) (hp : p ≤ xs.length) (hr : rmOk R 5 5 28) : Ct l mTr_readToolLine D R [.ref a] [sTr a tx d p f t ch nu px py, Cx, Cd, T] (fun v S => v = some (.int (b32 (pToolLine xs ts.length p).1.isSome)) ∧ ∃ nu' Cd' T' ts', S = [sTr a tx d (pToolLine xs ts.length p).2 f t ch nu' px py, Cx, Cd', T'] ∧ IsDr D d ts' hs Cd' T' Hs ∧ (∀ x, (pToolLine xs ts.length p).1 = some x → ∃ q, ts' = ts ++ [(q, x.1, x.2, [], [], 0, false, 8, 8)]) ∧ ((pToolLine xs ts.length p).1 = none → ts' = ts)) := by
  obtain ⟨r1, r2, r3, r4⟩ := hr
  obtain ⟨ta, ha, ft, fh, eCd, -, -, -, -, h3, h4⟩ := id hd
  generalize hP : pToolLine xs ts.length p = P
  unfold pToolLine at hP
  refine Ct.of rfl (by decide) tkTr_readToolLine (Nat.le_of_ble_eq_true rfl) (fun A => ?_)
  generalize hQ : (fun (v : Option Value) S => v = some (.int (b32 P.1.isSome)) ∧ ∃ nu' Cd' T' ts', S = [sTr a tx d P.2 f t ch nu' px py, Cx, Cd', T'] ∧ IsDr D d ts' hs Cd' T' Hs ∧ (∀ x, P.1 = some x → ∃ q, ts' = ts ++ [(q, x.1, x.2, [], [], 0, false, 8, 8)]) ∧ (P.1 = none → ts' = ts)) = Q
  have failed : ∀ (q : Nat) (nu' : Int32) (lv9 : List (Nat × Value)) (pc k n : Nat), P = (none, q) → xfe mTr_readToolLine.2.2.2.2.2 pc = some .ireturn → k ≤ R.cells → n ≤ R.slots → Ex l mTr_readToolLine D R A (xQ D A Q) R.cells R.slots pc lv9 [.int 0] [sTr a tx d q f t ch nu' px py, Cx, Cd, T] k n := by
    intro q nu' lv9 pc k n e hf hk hn
    refine Ex.zret hf rfl (Or.inl rfl) hk hn rfl ?_
    subst hQ
    rw [e]
    exact ⟨rfl, _, _, _, _, rfl, hd, (fun x h => by cases h), (fun _ => rfl)⟩
  refine Ex.p rfl ?_
  refine Ex.gf 0 0 rfl rfl rfl ?_
  refine Ex.p rfl ?_
  refine Ex.p rfl ?_
  refine Ex.p rfl ?_
  refine Ex.p rfl ?_
  refine Ex.cv (Mc := mTr_readPart) (Rc := rm 1 0 0) (As := [.int 84, .int (b32 false)]) (rest := []) (Sr := [Cd, T]) (ic := 0) (jc := 0) (ci := 7) [0, 1] [2, 3] (ct_Tr_readPart hx (by decide) hp (rm_ok _ _ _)) rfl lk_7_67 lcTr_readPart rfl rfl rfl rfl rfl (by decide) rfl rfl rfl (by decide) ⟨by dsimp only [rm]; omega, by show 8 + (6 + 11) + 40 ≤ R.locals; omega⟩ (Nat.le_of_ble_eq_true rfl) (by dsimp only [rm]; omega) (by dsimp only [rm]; omega) ?_
  rintro w S1 ⟨rfl, nu1, rfl, hnu1⟩
  have hle := pPart_le (xs := xs) (c := 84) (sg := false) (by decide) hp
  generalize pPart xs 84 false p = P1 at hnu1 hle hP
  obtain ⟨o1, p1⟩ := P1
  refine Ex.sub (S' := [sTr a tx d p1 f t ch nu1 px py, Cx, Cd, T]) [2, 3, 0, 1] rfl rfl ?_
  cases o1 with
  | none =>
    refine Ex.br rfl (fun c => absurd rfl c) (fun _ => ?_)
    refine Ex.p rfl ?_
    exact failed p1 _ _ _ _ _ hP.symm rfl (Nat.zero_le _) (Nat.zero_le _)
  | some x1 =>
    have e1 := hnu1 x1 rfl
    subst e1
    refine Ex.br rfl (fun _ => ?_) (fun c => absurd (show (1 : Int32) ≠ 0 by decide) c)
    refine Ex.p rfl ?_
    refine Ex.gf 0 0 rfl rfl rfl ?_
    refine Ex.p rfl ?_
    refine Ex.p rfl ?_
    refine Ex.p rfl ?_
    refine Ex.p rfl ?_
    refine Ex.cv (Mc := mTr_readPart) (Rc := rm 1 0 0) (As := [.int 67, .int (b32 false)]) (rest := []) (Sr := [Cd, T]) (ic := 0) (jc := 0) (ci := 7) [0, 1] [2, 3] (ct_Tr_readPart hx (by decide) hle.2.1 (rm_ok _ _ _)) rfl lk_7_67 lcTr_readPart rfl rfl rfl rfl rfl (by decide) rfl rfl rfl (by decide) ⟨by dsimp only [rm]; omega, by show 8 + (6 + 11) + 40 ≤ R.locals; omega⟩ (Nat.le_of_ble_eq_true rfl) (by dsimp only [rm]; omega) (by dsimp only [rm]; omega) ?_
    rintro w S1 ⟨rfl, nu2, rfl, hnu2⟩
    have hle2 := pPart_le (xs := xs) (c := 67) (sg := false) (by decide) hle.2.1
    dsimp only at hle2 hnu2 hP ⊢
    generalize pPart xs 67 false p1 = P2 at hnu2 hle2 hP
    obtain ⟨o2, p2⟩ := P2
    refine Ex.sub (S' := [sTr a tx d p2 f t ch nu2 px py, Cx, Cd, T]) [2, 3, 0, 1] rfl rfl ?_
    cases o2 with
    | none =>
      refine Ex.br rfl (fun c => absurd rfl c) (fun _ => ?_)
      refine Ex.p rfl ?_
      exact failed p2 _ _ _ _ _ hP.symm rfl (Nat.zero_le _) (Nat.zero_le _)
    | some x2 =>
      have e2 := hnu2 x2 rfl
      subst e2
      have hp2 : p2 ≤ xs.length := hle2.2.1
      obtain ⟨arr, fx, eCx, x1, x2, x3, x4, x5, x6⟩ := id hx
      refine Ex.br rfl (fun _ => ?_) (fun c => absurd (show (1 : Int32) ≠ 0 by decide) c)
      dsimp only at hP
      refine Ex.p rfl ?_
      refine Ex.gf 0 0 rfl rfl rfl ?_
      refine Ex.p rfl ?_
      refine Ex.gf 0 0 rfl rfl rfl ?_
      refine Ex.cv (Mc := mRo_get) (Rc := rm 0 0 0) (As := [.int (nI p2)]) (rest := []) (Sr := [sTr a tx d p2 f t ch nu2 px py, Cd, T]) (ic := 1) (jc := 0) (ci := 5) [1] [0, 2, 3] (ct_Ro_get hx) rfl lk_7_50 lcRo_get rfl rfl rfl rfl rfl (by decide) rfl (by rw [eCx]; rfl) rfl (by decide) ⟨by dsimp only [rm]; omega, by show 8 + (2 + 11) + 0 ≤ R.locals; omega⟩ (Nat.le_of_ble_eq_true rfl) (by dsimp only [rm]; omega) (by dsimp only [rm]; omega) ?_
      rintro w S1 ⟨rfl, rfl⟩
      rw [rget_gt (by omega)]
      refine Ex.sub (S' := [sTr a tx d p2 f t ch nu2 px py, Cx, Cd, T]) [0, 3, 1, 2] rfl rfl ?_
      have s68 : ∀ (pl : Bool) (tt : Nat), tt < gSN → pl = decide (gt xs p2 = 80) → txt tt = (if gt xs p2 = 80 then [80, 10] else [78, 10]) → ∀ lv9 : List (Nat × Value), (∀ z ∈ [(3, Value.int (b32 pl)), (2, .int nu1), (1, .int (nI p)), (0, .ref a)], z ∈ lv9) → Ex l mTr_readToolLine D R A (xQ D A Q) R.cells R.slots 68 lv9 [.ref (D.2.2.2.1 tt), .ref a] [sTr a tx d p2 f t ch nu2 px py, Cx, Cd, T] 0 0 := by
        intro pl tt htt hpl ett lv9 hlv
        refine Ex.lv hlv ?_
        rw [← ett, ← hpl] at hP
        refine Ex.cv (Mc := mTr_passes) (Rc := rm 4 0 0) (As := [.ref (D.2.2.2.1 tt)]) (rest := []) (Sr := [Cd, T]) (ic := 0) (jc := 0) (ci := 7) [0, 1] [2, 3] (ct_Tr_passes hx htt hp2 (rm_ok _ _ _)) rfl lk_7_43 lcTr_passes rfl rfl rfl rfl rfl (by decide) rfl rfl rfl (by decide) ⟨by dsimp only [rm]; omega, by show 8 + (3 + 11) + 160 ≤ R.locals; omega⟩ (Nat.le_of_ble_eq_true rfl) (by dsimp only [rm]; omega) (by dsimp only [rm]; omega) ?_
        rintro w S1 ⟨rfl, rfl⟩
        generalize pLit xs (txt tt) p2 = P3 at hP
        obtain ⟨o3, p3⟩ := P3
        refine Ex.sub (S' := [sTr a tx d p3 f t ch nu2 px py, Cx, Cd, T]) [2, 3, 0, 1] rfl rfl ?_
        cases o3 with
        | false =>
          refine Ex.br rfl (fun c => absurd rfl c) (fun _ => ?_)
          refine Ex.p rfl ?_
          exact failed p3 _ _ _ _ _ hP.symm rfl (Nat.zero_le _) (Nat.zero_le _)
        | true =>
          dsimp only at hP
          refine Ex.br rfl (fun _ => ?_) (fun c => absurd (show (1 : Int32) ≠ 0 by decide) c)
          have s119 : ¬ (nu1 = nI ts.length ∧ (1 ≤ nu2.toInt ∧ nu2.toInt ≤ 10000) ∧ ts.length < 10) → ∀ k n : Nat, k ≤ R.cells → n ≤ R.slots → Ex l mTr_readToolLine D R A (xQ D A Q) R.cells R.slots 119 [(3, Value.int (b32 pl)), (2, .int nu1), (1, .int (nI p)), (0, .ref a)] [.ref a] [sTr a tx d p3 f t ch nu2 px py, Cx, Cd, T] k n := by
            intro hne k n hk hn
            rw [if_neg hne] at hP
            refine Ex.p rfl ?_
            refine Ex.p rfl ?_
            refine Ex.cv (Mc := mTr_can) (Rc := rm 0 0 0) (As := [.int (b32 false), .int (nI p)]) (rest := []) (Sr := [Cx, Cd, T]) (ic := 0) (jc := 0) (ci := 7) [0] [1, 2, 3] (ct_Tr_can) rfl lk_7_86 lcTr_can rfl rfl rfl rfl rfl (by decide) rfl rfl rfl (by decide) ⟨by dsimp only [rm]; omega, by show 8 + (3 + 11) + 0 ≤ R.locals; omega⟩ (Nat.le_of_ble_eq_true rfl) (by dsimp only [rm]; omega) (by dsimp only [rm]; omega) ?_
            rintro w S1 ⟨rfl, rfl⟩
            refine Ex.sub (S' := [sTr a tx d p f t ch nu2 px py, Cx, Cd, T]) [3, 0, 1, 2] rfl rfl ?_
            exact failed p _ _ _ _ _ hP.symm rfl (by dsimp only [rm]; omega) (by dsimp only [rm]; omega)
          refine Ex.p rfl ?_
          refine Ex.p rfl ?_
          refine Ex.p rfl ?_
          refine Ex.gf 0 0 rfl rfl rfl ?_
          refine Ex.gf 2 0 rfl (by rw [eCd]; rfl) rfl ?_
          refine Ex.br rfl (fun c => s119 (fun q => c q.1) _ _ (Nat.zero_le _) (Nat.zero_le _)) (fun c1 => ?_)
          have c1 : nu1 = nI ts.length := Decidable.byContradiction c1
          refine Ex.p rfl ?_
          refine Ex.gf 0 0 rfl rfl rfl ?_
          refine Ex.p rfl ?_
          refine Ex.cs0N (Mc := mDa_isDiameter) (Rc := rm 0 0 0) (As := [.long nu2.toInt64]) (rest := [.ref a]) ct_isDiameter rfl ln_7_99 lcDa_isDiameter rfl ⟨by dsimp only [rm]; omega, by show 8 + (2 + 11) + 0 ≤ R.locals; omega⟩ (Nat.le_of_ble_eq_true rfl) (Nat.zero_le _) (Nat.zero_le _) ?_
          rintro w S1 ⟨rfl, rfl⟩
          rw [Int32.toInt_toInt64]
          by_cases g1 : 1 ≤ nu2.toInt ∧ nu2.toInt ≤ 10000
          · rw [decide_eq_true g1]
            refine Ex.br rfl (fun c => absurd c (show (1 : Int32) ≠ 0 by decide)) (fun _ => ?_)
            refine Ex.p rfl ?_
            refine Ex.gf 0 0 rfl rfl rfl ?_
            refine Ex.p rfl ?_
            refine Ex.gf 0 0 rfl rfl rfl ?_
            refine Ex.p rfl ?_
            refine Ex.cv (Mc := mDr_addTool) (Rc := rm 3 5 28) (As := [.int nu2, .int (b32 pl)]) (rest := [.ref a]) (Sr := [sTr a tx d p3 f t ch nu2 px py, Cx]) (ic := 2) (jc := 0) (ci := 1) [2, 3] [0, 1] (ct_Dr_addTool hd (rm_ok _ _ _)) rfl lk_7_103 lcDr_addTool rfl rfl rfl rfl rfl (by decide) rfl (by rw [eCd]; rfl) rfl (by decide) ⟨by dsimp only [rm]; omega, by show 8 + (3 + 11) + 120 ≤ R.locals; omega⟩ (Nat.le_of_ble_eq_true rfl) (by dsimp only [rm]; omega) (by dsimp only [rm]; omega) ?_
            rintro w S1 h9
            rcases h9 with ⟨h10, rfl, rfl⟩ | ⟨h10, rfl, Cd', T', q, rfl, hd'⟩
            · refine Ex.p rfl ?_
              refine Ex.br rfl (fun _ => ?_) (fun c => absurd rfl c)
              exact s119 (fun q => by omega) _ _ (by dsimp only [rm]; omega) (by dsimp only [rm]; omega)
            · refine Ex.p rfl ?_
              refine Ex.br rfl (fun c => ?_) (fun _ => ?_)
              · have c := congrArg Int32.toInt c
                rw [nI_toInt (by omega), show (Int32.ofInt (-1)).toInt = -1 from rfl] at c
                omega
              · rw [if_pos ⟨c1, g1, h10⟩] at hP
                refine Ex.p rfl ?_
                refine Ex.p rfl ?_
                refine Ex.p rfl ?_
                refine Ex.cv (Mc := mTr_can) (Rc := rm 0 0 0) (As := [.int (b32 true), .int (nI p)]) (rest := []) (Sr := [Cx, Cd', T']) (ic := 0) (jc := 0) (ci := 7) [0] [1, 2, 3] (ct_Tr_can) rfl lk_7_86 lcTr_can rfl rfl rfl rfl rfl (by decide) rfl rfl rfl (by decide) ⟨by dsimp only [rm]; omega, by show 8 + (3 + 11) + 0 ≤ R.locals; omega⟩ (Nat.le_of_ble_eq_true rfl) (by dsimp only [rm]; omega) (by dsimp only [rm]; omega) ?_
                rintro w S1 ⟨rfl, rfl⟩
                refine Ex.sub (S' := [sTr a tx d p3 f t ch nu2 px py, Cx, Cd', T']) [3, 0, 1, 2] rfl rfl ?_
                refine Ex.zret rfl rfl (Or.inr rfl) (by dsimp only [rm]; omega) (by dsimp only [rm]; omega) rfl ?_
                subst hQ
                subst hP
                exact ⟨rfl, _, _, _, _, rfl, hd', (fun x h => by cases h; exact ⟨q, rfl⟩), (fun h => by cases h)⟩
          · rw [decide_eq_false g1]
            exact Ex.br rfl (fun _ => s119 (fun q => g1 q.2.1) _ _ (Nat.zero_le _) (Nat.zero_le _)) (fun c => absurd rfl c)
      refine Ex.p rfl ?_
      refine Ex.br rfl (fun c => ?_) (fun c => ?_)
      · have c : ¬ gt xs p2 = 80 := c
        refine Ex.p rfl ?_
        refine Ex.p rfl ?_
        refine Ex.p rfl ?_
        refine Ex.p rfl ?_
        refine Ex.br rfl (fun _ => ?_) (fun c => absurd rfl c)
        refine Ex.ldcS rfl ?_
        refine s68 false 3 (by decide) (by rw [decide_eq_false c]) (by rw [if_neg c]; rfl) _ (fun z h => ?_)
        simp only [List.mem_cons, List.not_mem_nil, or_false] at h
        rcases h with rfl | rfl | rfl | rfl <;> first | (simp [xs1, lv_args, Value.category, b32, nI]; done) | (simp [xs1, lv_args, Value.category, b32, nI]; decide) | (simp [xs1, lv_args, Value.category, b32, nI]; exact Or.inr (by decide))
      · have c : gt xs p2 = 80 := Decidable.byContradiction c
        refine Ex.p rfl ?_
        refine Ex.p rfl ?_
        refine Ex.p rfl ?_
        refine Ex.p rfl ?_
        refine Ex.p rfl ?_
        refine Ex.br rfl (fun c => absurd c (show (1 : Int32) ≠ 0 by decide)) (fun _ => ?_)
        refine Ex.ldcS rfl ?_
        refine Ex.p rfl ?_
        refine s68 true 2 (by decide) (by rw [decide_eq_true c]) (by rw [if_pos c]; rfl) _ (fun z h => ?_)
        simp only [List.mem_cons, List.not_mem_nil, or_false] at h
        rcases h with rfl | rfl | rfl | rfl <;> first | (simp [xs1, lv_args, Value.category, b32, nI]; done) | (simp [xs1, lv_args, Value.category, b32, nI]; decide) | (simp [xs1, lv_args, Value.category, b32, nI]; exact Or.inr (by decide))
end R4
end
section
/-! TextReader: readHitLine -/
theorem pPlace_le {xs : List Int32} {p : Nat} (hp : p ≤ xs.length) : p ≤ (pPlace xs p).2 ∧ (pPlace xs p).2 ≤ xs.length ∧ ((pPlace xs p).1 ≠ none → p < (pPlace xs p).2) := by
  have h1 := pPart_le (xs := xs) (c := 88) (sg := true) (by decide) hp
  unfold pPlace
  generalize pPart xs 88 true p = P1 at h1
  obtain ⟨o1, p1⟩ := P1
  cases o1 with
  | none => exact ⟨h1.1, h1.2.1, fun h => absurd rfl h⟩
  | some x =>
    have h2 := pPart_le (xs := xs) (c := 89) (sg := true) (by decide) h1.2.1
    dsimp only at h1 h2 ⊢
    generalize pPart xs 89 true p1 = P2 at h2
    obtain ⟨o2, p2⟩ := P2
    have h3 := h1.2.2 (by simp)
    cases o2 with
    | none => exact ⟨by dsimp only at h2 ⊢; omega, h2.2.1, fun h => absurd rfl h⟩
    | some y => exact ⟨by dsimp only at h2 ⊢; omega, h2.2.1, fun _ => by dsimp only at h2 ⊢; omega⟩
section R5
variable {l : Launch} {D : xD} {R : Room}
theorem ct_Tr_readHitLine {a tx d p cp L c : Nat} {f t ch nu px py : Int32} {xs : List Int32} {ts : List TV} {hs : List (Nat × HV)} {t0 : TV} {Cx Cd T Hs : va_W} (hx : IsRow D tx L cp xs Cx) (hd : IsDr D d ts hs Cd T Hs) (hp : p ≤ xs.length) (hch : ch.toInt = c) (ht0 : ts[c]? = some t0) (hlt : hs.length < 60 → t0.2.2.2.1.length < 60) (hr : rmOk R 5 8 127) : Ct l mTr_readHitLine D R [.ref a] [sTr a tx d p f t ch nu px py, Cx, Cd, T, Hs] (fun v S => v = some (.int (b32 (pHitLine xs hs.length ch f t p).1.isSome)) ∧ ∃ nu' px' py' Cd' T' ts' hs', S = [sTr a tx d (pHitLine xs hs.length ch f t p).2 f t ch nu' px' py', Cx, Cd', T', sHs hs'] ∧ IsDr D d ts' hs' Cd' T' (sHs hs') ∧ (∀ x, (pHitLine xs hs.length ch f t p).1 = some x → ∃ q, ts' = ts.set c (tadd t0 (nI hs.length)) ∧ hs' = hs ++ [(q, x)]) ∧ ((pHitLine xs hs.length ch f t p).1 = none → ts' = ts ∧ hs' = hs)) := by
  obtain ⟨r1, r2, r3, r4⟩ := hr
  obtain ⟨ta, ha, ft, fh, eCd, hTs, hHs, -, -, h3, h4⟩ := id hd
  obtain ⟨arr, fx, eCx, x1, x2, x3, x4, x5, x6⟩ := id hx
  have hgrow : rcap t0.2.2.2.2.2.2.2.1 t0.2.2.2.1.length - t0.2.2.2.2.2.2.2.1 ≤ 60 := by
    obtain ⟨X, C, Y, -, ⟨rh, ro, Ch, Co, -, ⟨_, _, _, g1, g2, _⟩, -⟩, -⟩ := IsTs.at hTs ht0
    unfold rcap
    split <;> omega
  generalize hP : pHitLine xs hs.length ch f t p = P
  unfold pHitLine at hP
  refine Ct.of rfl (by decide) tkTr_readHitLine (Nat.le_of_ble_eq_true rfl) (fun A => ?_)
  generalize hQ : (fun (v : Option Value) S => v = some (.int (b32 P.1.isSome)) ∧ ∃ nu' px' py' Cd' T' ts' hs', S = [sTr a tx d P.2 f t ch nu' px' py', Cx, Cd', T', sHs hs'] ∧ IsDr D d ts' hs' Cd' T' (sHs hs') ∧ (∀ x, P.1 = some x → ∃ q, ts' = ts.set c (tadd t0 (nI hs.length)) ∧ hs' = hs ++ [(q, x)]) ∧ (P.1 = none → ts' = ts ∧ hs' = hs)) = Q
  have failed : ∀ (q : Nat) (nu' px' py' : Int32) (lv9 : List (Nat × Value)) (pc k n : Nat), P = (none, q) → xfe mTr_readHitLine.2.2.2.2.2 pc = some .ireturn → k ≤ R.cells → n ≤ R.slots → Ex l mTr_readHitLine D R A (xQ D A Q) R.cells R.slots pc lv9 [.int 0] [sTr a tx d q f t ch nu' px' py', Cx, Cd, T, Hs] k n := by
    intro q nu' px' py' lv9 pc k n e hf hk hn
    refine Ex.zret hf rfl (Or.inl rfl) hk hn rfl ?_
    subst hQ
    rw [e, hHs]
    exact ⟨rfl, _, _, _, _, _, ts, hs, rfl, hHs ▸ hd, (fun x h => by cases h), (fun _ => ⟨rfl, rfl⟩)⟩
  have tail : ∀ (sl : Bool) (x y x2 y2 nu' : Int32) (q : Nat), P = (if (near2 x y ∧ near2 x2 y2) ∧ decide (¬ (x = x2 ∧ y = y2)) = sl ∧ hs.length < 60 then (some (ch, x, y, x2, y2, if sl then 0 else f, if sl then 7 else t), q) else (none, p)) → ∀ lv9 : List (Nat × Value), (∀ z ∈ [(4, Value.int (b32 sl)), (3, .int y), (2, .int x), (1, .int (nI p)), (0, .ref a)], z ∈ lv9) →
      Ex l mTr_readHitLine D R A (xQ D A Q) R.cells R.slots 81 lv9 [] [sTr a tx d q f t ch nu' x2 y2, Cx, Cd, T, Hs] 0 0 := by
    intro sl x y x2 y2 nu' q hPt lv9 hlv
    refine Ex.lv hlv ?_
    have s221 : ¬ ((near2 x y ∧ near2 x2 y2) ∧ decide (¬ (x = x2 ∧ y = y2)) = sl ∧ hs.length < 60) → ∀ (k n : Nat), k ≤ R.cells → n ≤ R.slots → ∀ lv9 : List (Nat × Value), (∀ z ∈ [(1, Value.int (nI p)), (0, .ref a)], z ∈ lv9) → Ex l mTr_readHitLine D R A (xQ D A Q) R.cells R.slots 221 lv9 [.ref a] [sTr a tx d q f t ch nu' x2 y2, Cx, Cd, T, Hs] k n := by
      intro hne k n hk hn lv9 hlv
      refine Ex.lv hlv ?_
      rw [if_neg hne] at hPt
      refine Ex.p rfl ?_
      refine Ex.p rfl ?_
      refine Ex.cv (Mc := mTr_can) (Rc := rm 0 0 0) (As := [.int (b32 false), .int (nI p)]) (rest := []) (Sr := [Cx, Cd, T, Hs]) (ic := 0) (jc := 0) (ci := 7) [0] [1, 2, 3, 4] (ct_Tr_can) rfl lk_7_86 lcTr_can rfl rfl rfl rfl rfl (by decide) rfl rfl rfl (by decide) ⟨by dsimp only [rm]; omega, by show 8 + (3 + 11) + 0 ≤ R.locals; omega⟩ (Nat.le_of_ble_eq_true rfl) (by dsimp only [rm]; omega) (by dsimp only [rm]; omega) ?_
      rintro w S1 ⟨rfl, rfl⟩
      refine Ex.sub (S' := [sTr a tx d p f t ch nu' x2 y2, Cx, Cd, T, Hs]) [4, 0, 1, 2, 3] rfl rfl ?_
      exact failed p _ _ _ _ _ _ _ hPt rfl (by dsimp only [rm]; omega) (by dsimp only [rm]; omega)
    have s168 : ∀ (pb ap : Bool) (lo hi : Int32), pb = decide (near2 x y ∧ near2 x2 y2) → ap = decide (¬ (x = x2 ∧ y = y2)) → lo = (if sl then 0 else f) → hi = (if sl then 7 else t) → ∀ lv9 : List (Nat × Value), (∀ z ∈ [(8, Value.int hi), (7, .int lo), (6, .int (b32 ap)), (5, .int (b32 pb)), (4, .int (b32 sl)), (3, .int y), (2, .int x), (1, .int (nI p)), (0, .ref a)], z ∈ lv9) → Ex l mTr_readHitLine D R A (xQ D A Q) R.cells R.slots 168 lv9 [] [sTr a tx d q f t ch nu' x2 y2, Cx, Cd, T, Hs] 0 0 := by
      intro pb ap lo hi hpb hap hlo hhi lv9 hlv
      refine Ex.lv hlv ?_
      refine Ex.p rfl ?_
      refine Ex.p rfl ?_
      cases pb with
      | false =>
        refine Ex.br rfl (fun _ => ?_) (fun c => absurd rfl c)
        refine s221 (fun q => of_decide_eq_false hpb.symm q.1) _ _ (Nat.zero_le _) (Nat.zero_le _) _ (fun z h => ?_)
        simp only [List.mem_cons, List.not_mem_nil, or_false] at h
        rcases h with rfl | rfl <;> first | (simp [xs1, lv_args, Value.category, b32, nI]; done) | (simp [xs1, lv_args, Value.category, b32, nI]; decide) | (simp [xs1, lv_args, Value.category, b32, nI]; exact Or.inr (by decide))
      | true =>
        have hpb := of_decide_eq_true hpb.symm
        refine Ex.br rfl (fun c => absurd c (show (1 : Int32) ≠ 0 by decide)) (fun _ => ?_)
        refine Ex.p rfl ?_
        refine Ex.p rfl ?_
        refine Ex.br rfl (fun c => ?_) (fun c => ?_)
        · refine s221 (fun q => ?_) _ _ (Nat.zero_le _) (Nat.zero_le _) _ (fun z h => ?_)
          · rw [q.2.1] at hap
            subst hap
            exact c rfl
          · simp only [List.mem_cons, List.not_mem_nil, or_false] at h
            rcases h with rfl | rfl <;> first | (simp [xs1, lv_args, Value.category, b32, nI]; done) | (simp [xs1, lv_args, Value.category, b32, nI]; decide) | (simp [xs1, lv_args, Value.category, b32, nI]; exact Or.inr (by decide))
        · have c : b32 ap = b32 sl := Decidable.byContradiction c
          have hsl : ap = sl := by cases ap <;> cases sl <;> first | rfl | exact absurd c (by decide)
          refine Ex.p rfl ?_
          refine Ex.gf 0 0 rfl rfl rfl ?_
          refine Ex.new (ci := 3) (N := 7) rfl rfl (by omega) (by omega) (fun q9 => ?_)
          refine Ex.p rfl ?_
          refine Ex.p rfl ?_
          refine Ex.gf 0 0 rfl rfl rfl ?_
          refine Ex.p rfl ?_
          refine Ex.p rfl ?_
          refine Ex.p rfl ?_
          refine Ex.gf 0 0 rfl rfl rfl ?_
          refine Ex.p rfl ?_
          refine Ex.gf 0 0 rfl rfl rfl ?_
          refine Ex.p rfl ?_
          refine Ex.p rfl ?_
          refine Ex.ci (Mc := mHi_init) (Rc := rm 1 0 0) (As := [.int ch, .int x, .int y, .int x2, .int y2, .int lo, .int hi]) (rest := [.ref q9, .ref d, .ref a]) (Sr := [sTr a tx d q f t ch nu' x2 y2, Cx, Cd, T, Hs]) [5] [0, 1, 2, 3, 4] (ct_Hi_init (h := (ch, x, y, x2, y2, lo, hi)) (rm_ok _ _ _)) rfl lk_7_128 lcHi_init rfl rfl rfl rfl rfl (by decide) ⟨by dsimp only [rm]; omega, by show 8 + (8 + 11) + 40 ≤ R.locals; omega⟩ (Nat.le_of_ble_eq_true rfl) (by dsimp only [rm]; omega) (by dsimp only [rm]; omega) ?_
          rintro w S1 ⟨rfl, rfl⟩
          refine Ex.cv (Mc := mDr_addHit) (Rc := rm 4 ((rcap t0.2.2.2.2.2.2.2.1 t0.2.2.2.1.length - t0.2.2.2.2.2.2.2.1) / 8) (2 * (rcap t0.2.2.2.2.2.2.2.1 t0.2.2.2.1.length - t0.2.2.2.2.2.2.2.1))) (As := [.ref q9]) (rest := [.ref a]) (Sr := [sTr a tx d q f t ch nu' x2 y2, Cx]) (ic := 2) (jc := 0) (ci := 1) [2, 3, 4, 5] [0, 1] (ct_Dr_addHit (h9 := (ch, x, y, x2, y2, lo, hi)) hd hch ht0 hlt (rm_ok _ _ _)) rfl lk_7_131 lcDr_addHit rfl rfl rfl rfl rfl (by decide) rfl (by rw [eCd]; rfl) rfl (by decide) ⟨by dsimp only [rm]; omega, by show 8 + (3 + 11) + 160 ≤ R.locals; omega⟩ (Nat.le_of_ble_eq_true rfl) (by dsimp only [rm]; omega) (by dsimp only [rm]; omega) ?_
          rintro w S1 h9
          rcases h9 with ⟨h10, rfl, rfl⟩ | ⟨h10, rfl, Cd', T', rfl, hd'⟩
          · refine Ex.p rfl ?_
            refine Ex.br rfl (fun _ => ?_) (fun c => absurd rfl c)
            refine Ex.sub (S' := [sTr a tx d q f t ch nu' x2 y2, Cx, Cd, T, Hs]) [0, 1, 2, 3, 4] rfl rfl ?_
            refine s221 (fun q => by omega) _ _ (by dsimp only [rm]; omega) (by dsimp only [rm]; omega) _ (fun z h => ?_)
            simp only [List.mem_cons, List.not_mem_nil, or_false] at h
            rcases h with rfl | rfl <;> first | (simp [xs1, lv_args, Value.category, b32, nI]; done) | (simp [xs1, lv_args, Value.category, b32, nI]; decide) | (simp [xs1, lv_args, Value.category, b32, nI]; exact Or.inr (by decide))
          · refine Ex.p rfl ?_
            refine Ex.br rfl (fun c => ?_) (fun _ => ?_)
            · have c := congrArg Int32.toInt c
              rw [nI_toInt (by omega), show (Int32.ofInt (-1)).toInt = -1 from rfl] at c
              omega
            · rw [if_pos ⟨hpb, by rw [← hap]; exact hsl, h10⟩, ← hlo, ← hhi] at hPt
              refine Ex.p rfl ?_
              refine Ex.p rfl ?_
              refine Ex.p rfl ?_
              refine Ex.cv (Mc := mTr_can) (Rc := rm 0 0 0) (As := [.int (b32 true), .int (nI p)]) (rest := []) (Sr := [Cx, Cd', T', sHs (hs ++ [(q9, (ch, x, y, x2, y2, lo, hi))])]) (ic := 0) (jc := 0) (ci := 7) [0] [1, 2, 3, 4] (ct_Tr_can) rfl lk_7_86 lcTr_can rfl rfl rfl rfl rfl (by decide) rfl rfl rfl (by decide) ⟨by dsimp only [rm]; omega, by show 8 + (3 + 11) + 0 ≤ R.locals; omega⟩ (Nat.le_of_ble_eq_true rfl) (by dsimp only [rm]; omega) (by dsimp only [rm]; omega) ?_
              rintro w S1 ⟨rfl, rfl⟩
              refine Ex.sub (S' := [sTr a tx d q f t ch nu' x2 y2, Cx, Cd', T', sHs (hs ++ [(q9, (ch, x, y, x2, y2, lo, hi))])]) [4, 0, 1, 2, 3] rfl rfl ?_
              refine Ex.zret rfl rfl (Or.inr rfl) (by dsimp only [rm]; omega) (by dsimp only [rm]; omega) rfl ?_
              subst hQ
              rw [hPt]
              exact ⟨rfl, _, _, _, _, _, _, _, rfl, hd', (fun x h => by cases h; exact ⟨q9, rfl, rfl⟩), (fun h => by cases h)⟩
    have s135 : ∀ (pb ap : Bool), pb = decide (near2 x y ∧ near2 x2 y2) → ap = decide (¬ (x = x2 ∧ y = y2)) → ∀ lv9 : List (Nat × Value), (∀ z ∈ [(5, .int (b32 pb)), (4, Value.int (b32 sl)), (3, .int y), (2, .int x), (1, .int (nI p)), (0, .ref a)], z ∈ lv9) → Ex l mTr_readHitLine D R A (xQ D A Q) R.cells R.slots 135 lv9 [.int (b32 ap)] [sTr a tx d q f t ch nu' x2 y2, Cx, Cd, T, Hs] 0 0 := by
      intro pb ap hpb hap lv9 hlv
      refine Ex.lv hlv ?_
      refine Ex.p rfl ?_
      refine Ex.p rfl ?_
      cases sl with
      | false =>
        refine Ex.br rfl (fun _ => ?_) (fun c => absurd rfl c)
        refine Ex.p rfl ?_
        refine Ex.gf 0 0 rfl rfl rfl ?_
        refine Ex.p rfl ?_
        refine Ex.p rfl ?_
        refine Ex.br rfl (fun _ => ?_) (fun c => absurd rfl c)
        refine Ex.p rfl ?_
        refine Ex.gf 0 0 rfl rfl rfl ?_
        refine Ex.p rfl ?_
        refine s168 pb ap f t hpb hap rfl rfl _ (fun z h => ?_)
        simp only [List.mem_cons, List.not_mem_nil, or_false] at h
        rcases h with rfl | rfl | rfl | rfl | rfl | rfl | rfl | rfl | rfl <;> first | (simp [xs1, lv_args, Value.category, b32, nI]; done) | (simp [xs1, lv_args, Value.category, b32, nI]; decide) | (simp [xs1, lv_args, Value.category, b32, nI]; exact Or.inr (by decide))
      | true =>
        refine Ex.br rfl (fun c => absurd c (show (1 : Int32) ≠ 0 by decide)) (fun _ => ?_)
        refine Ex.p rfl ?_
        refine Ex.p rfl ?_
        refine Ex.p rfl ?_
        refine Ex.p rfl ?_
        refine Ex.br rfl (fun c => absurd c (show (1 : Int32) ≠ 0 by decide)) (fun _ => ?_)
        refine Ex.p rfl ?_
        refine Ex.p rfl ?_
        refine Ex.p rfl ?_
        refine s168 pb ap 0 7 hpb hap rfl rfl _ (fun z h => ?_)
        simp only [List.mem_cons, List.not_mem_nil, or_false] at h
        rcases h with rfl | rfl | rfl | rfl | rfl | rfl | rfl | rfl | rfl <;> first | (simp [xs1, lv_args, Value.category, b32, nI]; done) | (simp [xs1, lv_args, Value.category, b32, nI]; decide) | (simp [xs1, lv_args, Value.category, b32, nI]; exact Or.inr (by decide))
    have s112 : ∀ (pb : Bool), pb = decide (near2 x y ∧ near2 x2 y2) → Ex l mTr_readHitLine D R A (xQ D A Q) R.cells R.slots 112 [(4, Value.int (b32 sl)), (3, .int y), (2, .int x), (1, .int (nI p)), (0, .ref a)] [.int (b32 pb)] [sTr a tx d q f t ch nu' x2 y2, Cx, Cd, T, Hs] 0 0 := by
      intro pb hpb
      refine Ex.p rfl ?_
      refine Ex.p rfl ?_
      refine Ex.p rfl ?_
      refine Ex.gf 0 0 rfl rfl rfl ?_
      refine Ex.br rfl (fun c => ?_) (fun c => ?_)
      · have c : ¬ x = x2 := c
        refine Ex.p rfl ?_
        refine Ex.p rfl ?_
        refine s135 pb true hpb (decide_eq_true (p := ¬ (x = x2 ∧ y = y2)) (fun q => c q.1)).symm _ (fun z h => ?_)
        simp only [List.mem_cons, List.not_mem_nil, or_false] at h
        rcases h with rfl | rfl | rfl | rfl | rfl | rfl <;> first | (simp [xs1, lv_args, Value.category, b32, nI]; done) | (simp [xs1, lv_args, Value.category, b32, nI]; decide) | (simp [xs1, lv_args, Value.category, b32, nI]; exact Or.inr (by decide))
      · have c : x = x2 := Decidable.byContradiction c
        refine Ex.p rfl ?_
        refine Ex.p rfl ?_
        refine Ex.gf 0 0 rfl rfl rfl ?_
        refine Ex.br rfl (fun c2 => ?_) (fun c2 => ?_)
        · have c2 : y = y2 := c2
          refine Ex.p rfl ?_
          refine s135 pb false hpb (by rw [decide_eq_false (fun q => q ⟨c, c2⟩)]) _ (fun z h => ?_)
          simp only [List.mem_cons, List.not_mem_nil, or_false] at h
          rcases h with rfl | rfl | rfl | rfl | rfl | rfl <;> first | (simp [xs1, lv_args, Value.category, b32, nI]; done) | (simp [xs1, lv_args, Value.category, b32, nI]; decide) | (simp [xs1, lv_args, Value.category, b32, nI]; exact Or.inr (by decide))
        · have c2 : ¬ y = y2 := c2
          refine Ex.p rfl ?_
          refine Ex.p rfl ?_
          refine s135 pb true hpb (decide_eq_true (p := ¬ (x = x2 ∧ y = y2)) (fun q => c2 q.2)).symm _ (fun z h => ?_)
          simp only [List.mem_cons, List.not_mem_nil, or_false] at h
          rcases h with rfl | rfl | rfl | rfl | rfl | rfl <;> first | (simp [xs1, lv_args, Value.category, b32, nI]; done) | (simp [xs1, lv_args, Value.category, b32, nI]; decide) | (simp [xs1, lv_args, Value.category, b32, nI]; exact Or.inr (by decide))
    refine Ex.p rfl ?_
    refine Ex.p rfl ?_
    refine Ex.p rfl ?_
    refine Ex.p rfl ?_
    refine Ex.cs0N (Mc := mDa_isPlace) (Rc := rm 0 0 0) (As := [.long x.toInt64, .long y.toInt64]) (rest := []) ct_isPlace rfl ln_7_122 lcDa_isPlace rfl ⟨by dsimp only [rm]; omega, by show 8 + (4 + 11) + 0 ≤ R.locals; omega⟩ (Nat.le_of_ble_eq_true rfl) (Nat.zero_le _) (Nat.zero_le _) ?_
    rintro w S1 ⟨rfl, rfl⟩
    rw [Int32.toInt_toInt64, Int32.toInt_toInt64]
    by_cases g1 : near2 x y
    · rw [decide_eq_true g1]
      refine Ex.br rfl (fun c => absurd c (show (1 : Int32) ≠ 0 by decide)) (fun _ => ?_)
      refine Ex.p rfl ?_
      refine Ex.gf 0 0 rfl rfl rfl ?_
      refine Ex.p rfl ?_
      refine Ex.p rfl ?_
      refine Ex.gf 0 0 rfl rfl rfl ?_
      refine Ex.p rfl ?_
      refine Ex.cs0N (Mc := mDa_isPlace) (Rc := rm 0 0 0) (As := [.long x2.toInt64, .long y2.toInt64]) (rest := []) ct_isPlace rfl ln_7_122 lcDa_isPlace rfl ⟨by dsimp only [rm]; omega, by show 8 + (4 + 11) + 0 ≤ R.locals; omega⟩ (Nat.le_of_ble_eq_true rfl) (Nat.zero_le _) (Nat.zero_le _) ?_
      rintro w S1 ⟨rfl, rfl⟩
      rw [Int32.toInt_toInt64, Int32.toInt_toInt64]
      by_cases g2 : near2 x2 y2
      · rw [decide_eq_true g2]
        refine Ex.br rfl (fun c => absurd c (show (1 : Int32) ≠ 0 by decide)) (fun _ => ?_)
        refine Ex.p rfl ?_
        refine Ex.p rfl ?_
        exact s112 true (by rw [decide_eq_true ⟨g1, g2⟩])
      · rw [decide_eq_false g2]
        refine Ex.br rfl (fun _ => ?_) (fun c => absurd rfl c)
        refine Ex.p rfl ?_
        exact s112 false (by rw [decide_eq_false (fun q => g2 q.2)])
    · rw [decide_eq_false g1]
      refine Ex.br rfl (fun _ => ?_) (fun c => absurd rfl c)
      refine Ex.p rfl ?_
      exact s112 false (by rw [decide_eq_false (fun q => g1 q.1)])
  have nl : ∀ (sl : Bool) (x y x2 y2 nu' : Int32) (q : Nat), q ≤ xs.length → P = (match pLit xs [10] q with
      | (false, p4) => (none, p4)
      | (true, p4) => (if (near2 x y ∧ near2 x2 y2) ∧ decide (¬ (x = x2 ∧ y = y2)) = sl ∧ hs.length < 60 then (some (ch, x, y, x2, y2, if sl then 0 else f, if sl then 7 else t), p4) else (none, p))) → ∀ lv9 : List (Nat × Value), (∀ z ∈ [(4, Value.int (b32 sl)), (3, .int y), (2, .int x), (1, .int (nI p)), (0, .ref a)], z ∈ lv9) →
      Ex l mTr_readHitLine D R A (xQ D A Q) R.cells R.slots 70 lv9 [] [sTr a tx d q f t ch nu' x2 y2, Cx, Cd, T, Hs] 0 0 := by
    intro sl x y x2 y2 nu' q hq hPq lv9 hlv
    refine Ex.lv hlv ?_
    refine Ex.p rfl ?_
    refine Ex.ldcS rfl ?_
    refine Ex.cv (Mc := mTr_passes) (Rc := rm 4 0 0) (As := [.ref (D.2.2.2.1 1)]) (rest := []) (Sr := [Cd, T, Hs]) (ic := 0) (jc := 0) (ci := 7) [0, 1] [2, 3, 4] (ct_Tr_passes hx (by decide) hq (rm_ok _ _ _)) rfl lk_7_43 lcTr_passes rfl rfl rfl rfl rfl (by decide) rfl rfl rfl (by decide) ⟨by dsimp only [rm]; omega, by show 8 + (3 + 11) + 160 ≤ R.locals; omega⟩ (Nat.le_of_ble_eq_true rfl) (by dsimp only [rm]; omega) (by dsimp only [rm]; omega) ?_
    rintro w S1 ⟨rfl, rfl⟩
    rw [show txt 1 = [10] from rfl]
    generalize pLit xs [10] q = P3 at hPq
    obtain ⟨o3, p3⟩ := P3
    refine Ex.sub (S' := [sTr a tx d p3 f t ch nu' x2 y2, Cx, Cd, T, Hs]) [3, 4, 0, 1, 2] rfl rfl ?_
    cases o3 with
    | false =>
      refine Ex.br rfl (fun c => absurd rfl c) (fun _ => ?_)
      refine Ex.p rfl ?_
      exact failed p3 _ _ _ _ _ _ _ hPq rfl (Nat.zero_le _) (Nat.zero_le _)
    | true =>
      refine Ex.br rfl (fun _ => ?_) (fun c => absurd (show (1 : Int32) ≠ 0 by decide) c)
      exact tail sl x y x2 y2 nu' p3 hPq _ (fun z h => h)
  refine Ex.p rfl ?_
  refine Ex.gf 0 0 rfl rfl rfl ?_
  refine Ex.p rfl ?_
  refine Ex.p rfl ?_
  refine Ex.cv (Mc := mTr_readPlace) (Rc := rm 2 0 0) (As := []) (rest := []) (Sr := [Cd, T, Hs]) (ic := 0) (jc := 0) (ci := 7) [0, 1] [2, 3, 4] (ct_Tr_readPlace hx hp (rm_ok _ _ _)) rfl lk_7_111 lcTr_readPlace rfl rfl rfl rfl rfl (by decide) rfl rfl rfl (by decide) ⟨by dsimp only [rm]; omega, by show 8 + (1 + 11) + 80 ≤ R.locals; omega⟩ (Nat.le_of_ble_eq_true rfl) (by dsimp only [rm]; omega) (by dsimp only [rm]; omega) ?_
  rintro w S1 ⟨rfl, nu1, px1, py1, rfl, hv1⟩
  have hle := pPlace_le (xs := xs) hp
  generalize pPlace xs p = P1 at hv1 hle hP
  obtain ⟨o1, p1⟩ := P1
  refine Ex.sub (S' := [sTr a tx d p1 f t ch nu1 px1 py1, Cx, Cd, T, Hs]) [3, 4, 0, 1, 2] rfl rfl ?_
  cases o1 with
  | none =>
    refine Ex.br rfl (fun c => absurd rfl c) (fun _ => ?_)
    refine Ex.p rfl ?_
    exact failed p1 _ _ _ _ _ _ _ hP.symm rfl (Nat.zero_le _) (Nat.zero_le _)
  | some xy =>
    obtain ⟨x, y⟩ := xy
    obtain ⟨e1, e2⟩ := hv1 _ rfl
    subst e1
    subst e2
    dsimp only at hP
    have hp1 : p1 ≤ xs.length := hle.2.1
    refine Ex.br rfl (fun _ => ?_) (fun c => absurd (show (1 : Int32) ≠ 0 by decide) c)
    refine Ex.p rfl ?_
    refine Ex.gf 0 0 rfl rfl rfl ?_
    refine Ex.p rfl ?_
    refine Ex.p rfl ?_
    refine Ex.gf 0 0 rfl rfl rfl ?_
    refine Ex.p rfl ?_
    refine Ex.p rfl ?_
    refine Ex.gf 0 0 rfl rfl rfl ?_
    refine Ex.p rfl ?_
    refine Ex.gf 0 0 rfl rfl rfl ?_
    refine Ex.cv (Mc := mRo_get) (Rc := rm 0 0 0) (As := [.int (nI p1)]) (rest := []) (Sr := [sTr a tx d p1 f t ch nu1 px1 py1, Cd, T, Hs]) (ic := 1) (jc := 0) (ci := 5) [1] [0, 2, 3, 4] (ct_Ro_get hx) rfl lk_7_50 lcRo_get rfl rfl rfl rfl rfl (by decide) rfl (by rw [eCx]; rfl) rfl (by decide) ⟨by dsimp only [rm]; omega, by show 8 + (2 + 11) + 0 ≤ R.locals; omega⟩ (Nat.le_of_ble_eq_true rfl) (by dsimp only [rm]; omega) (by dsimp only [rm]; omega) ?_
    rintro w S1 ⟨rfl, rfl⟩
    rw [rget_gt (by omega)]
    refine Ex.sub (S' := [sTr a tx d p1 f t ch nu1 px1 py1, Cx, Cd, T, Hs]) [0, 4, 1, 2, 3] rfl rfl ?_
    refine Ex.p rfl ?_
    refine Ex.br rfl (fun c => ?_) (fun c => ?_)
    · have c : ¬ gt xs p1 = 71 := c
      rw [if_neg c] at hP
      refine Ex.p rfl ?_
      refine Ex.p rfl ?_
      refine Ex.p rfl ?_
      refine Ex.br rfl (fun _ => ?_) (fun c => absurd rfl c)
      refine nl false px1 py1 px1 py1 nu1 p1 hp1 ?_ _ (fun z h => ?_)
      · rw [← hP]
        generalize pLit xs [10] p1 = P3
        obtain ⟨o3, p3⟩ := P3
        cases o3 with
        | false => rfl
        | true =>
          dsimp only
          by_cases g : near2 px1 py1 ∧ hs.length < 60
          · rw [if_pos g, if_pos ⟨⟨g.1, g.1⟩, by simp, g.2⟩]
            rfl
          · rw [if_neg g, if_neg (fun q => g ⟨q.1.1, q.2.2⟩)]
      · simp only [List.mem_cons, List.not_mem_nil, or_false] at h
        rcases h with rfl | rfl | rfl | rfl | rfl <;> first | (simp [xs1, lv_args, Value.category, b32, nI]; done) | (simp [xs1, lv_args, Value.category, b32, nI]; decide) | (simp [xs1, lv_args, Value.category, b32, nI]; exact Or.inr (by decide))
    · have c : gt xs p1 = 71 := Decidable.byContradiction c
      rw [if_pos c] at hP
      refine Ex.p rfl ?_
      refine Ex.p rfl ?_
      refine Ex.p rfl ?_
      refine Ex.p rfl ?_
      refine Ex.br rfl (fun c => absurd c (show (1 : Int32) ≠ 0 by decide)) (fun _ => ?_)
      refine Ex.p rfl ?_
      refine Ex.ldcS rfl ?_
      have hle2 := pLit_le (xs := xs) (cs := [71, 56, 53]) (by decide) hp1
      refine Ex.cv (Mc := mTr_passes) (Rc := rm 4 0 0) (As := [.ref (D.2.2.2.1 5)]) (rest := []) (Sr := [Cd, T, Hs]) (ic := 0) (jc := 0) (ci := 7) [0, 1] [2, 3, 4] (ct_Tr_passes hx (by decide) hp1 (rm_ok _ _ _)) rfl lk_7_43 lcTr_passes rfl rfl rfl rfl rfl (by decide) rfl rfl rfl (by decide) ⟨by dsimp only [rm]; omega, by show 8 + (3 + 11) + 160 ≤ R.locals; omega⟩ (Nat.le_of_ble_eq_true rfl) (by dsimp only [rm]; omega) (by dsimp only [rm]; omega) ?_
      rintro w S1 ⟨rfl, rfl⟩
      rw [show txt 5 = [71, 56, 53] from rfl]
      generalize pLit xs [71, 56, 53] p1 = P2 at hP hle2
      obtain ⟨o2, p2⟩ := P2
      refine Ex.sub (S' := [sTr a tx d p2 f t ch nu1 px1 py1, Cx, Cd, T, Hs]) [3, 4, 0, 1, 2] rfl rfl ?_
      cases o2 with
      | false =>
        refine Ex.br rfl (fun _ => ?_) (fun c => absurd rfl c)
        refine Ex.p rfl ?_
        exact failed p2 _ _ _ _ _ _ _ hP.symm rfl (Nat.zero_le _) (Nat.zero_le _)
      | true =>
        dsimp only at hP
        have hp2 : p2 ≤ xs.length := hle2.2
        refine Ex.br rfl (fun c => absurd c (show (1 : Int32) ≠ 0 by decide)) (fun _ => ?_)
        refine Ex.p rfl ?_
        refine Ex.cv (Mc := mTr_readPlace) (Rc := rm 2 0 0) (As := []) (rest := []) (Sr := [Cd, T, Hs]) (ic := 0) (jc := 0) (ci := 7) [0, 1] [2, 3, 4] (ct_Tr_readPlace hx hp2 (rm_ok _ _ _)) rfl lk_7_111 lcTr_readPlace rfl rfl rfl rfl rfl (by decide) rfl rfl rfl (by decide) ⟨by dsimp only [rm]; omega, by show 8 + (1 + 11) + 80 ≤ R.locals; omega⟩ (Nat.le_of_ble_eq_true rfl) (by dsimp only [rm]; omega) (by dsimp only [rm]; omega) ?_
        rintro w S1 ⟨rfl, nu2, px2, py2, rfl, hv2⟩
        have hle3 := pPlace_le (xs := xs) hp2
        generalize pPlace xs p2 = P3 at hv2 hle3 hP
        obtain ⟨o3, p3⟩ := P3
        refine Ex.sub (S' := [sTr a tx d p3 f t ch nu2 px2 py2, Cx, Cd, T, Hs]) [3, 4, 0, 1, 2] rfl rfl ?_
        cases o3 with
        | none =>
          refine Ex.br rfl (fun c => absurd rfl c) (fun _ => ?_)
          refine Ex.p rfl ?_
          exact failed p3 _ _ _ _ _ _ _ hP.symm rfl (Nat.zero_le _) (Nat.zero_le _)
        | some xy =>
          obtain ⟨x, y⟩ := xy
          obtain ⟨e1, e2⟩ := hv2 _ rfl
          subst e1
          subst e2
          dsimp only at hP
          refine Ex.br rfl (fun _ => ?_) (fun c => absurd (show (1 : Int32) ≠ 0 by decide) c)
          refine nl true px1 py1 px2 py2 nu2 p3 hle3.2.1 ?_ _ (fun z h => ?_)
          · rw [← hP]
            generalize pLit xs [10] p3 = P4
            obtain ⟨o4, p4⟩ := P4
            cases o4 with
            | false => rfl
            | true =>
              dsimp only
              by_cases g : (near2 px1 py1 ∧ near2 px2 py2) ∧ ¬ (px1 = px2 ∧ py1 = py2) ∧ hs.length < 60
              · rw [if_pos g, if_pos ⟨g.1, decide_eq_true g.2.1, g.2.2⟩]
                rfl
              · rw [if_neg g, if_neg (fun q => g ⟨q.1, of_decide_eq_true q.2.1, q.2.2⟩)]
          · simp only [List.mem_cons, List.not_mem_nil, or_false] at h
            rcases h with rfl | rfl | rfl | rfl | rfl <;> first | (simp [xs1, lv_args, Value.category, b32, nI]; done) | (simp [xs1, lv_args, Value.category, b32, nI]; decide) | (simp [xs1, lv_args, Value.category, b32, nI]; exact Or.inr (by decide))
end R5
end
section
/-! what holds of a drawing holds behind a new tool, a new hit; lines go on -/
theorem npk_congr2 {n : Nat} {mv mv' : Nat → HV} (h : ∀ j, j < n → mv j = mv' j) : ∀ {k : Nat} {fd : Nat → Int32} {g : HV}, npk n mv k fd g = npk n mv' k fd g
  | 0, _, _ => rfl
  | k + 1, fd, g => by
    have e : nfold (fun j => decide (fd j = 0)) (fun j => hway g (mv j)) n = nfold (fun j => decide (fd j = 0)) (fun j => hway g (mv' j)) n := nfold_congr (fun j hj _ => by rw [h j hj])
    unfold npk
    rw [e]
    cases hb : (nfold (fun j => decide (fd j = 0)) (fun j => hway g (mv' j)) n).1 with
    | none => rfl
    | some b =>
      dsimp only
      rw [h b (nfold_lt hb), npk_congr2 h]
theorem TOrd.congr {n : Nat} {mv mv' : Nat → HV} {ps : List Nat} {len : Int64} (h : ∀ j, j < n → mv j = mv' j) (ho : TOrd n mv ps len) : TOrd n mv' ps len := by
  refine ⟨fun hn => ?_, fun hn => ?_⟩
  · obtain ⟨fw, fr, h1, h2, h3, h4⟩ := ho.1 hn
    exact ⟨fw, fr, ⟨fun la nx a b => by rw [h1.1 la nx a b, h la a, h nx b], fun nx b => by rw [h1.2 nx b, h nx b]⟩, h2, h3, h4⟩
  · have := ho.2 hn
    rw [npk_congr2 h] at this
    exact this
theorem ordOf_congr {n : Nat} {mv mv' : Nat → HV} (h : ∀ j, j < n → mv j = mv' j) : ordOf n mv = ordOf n mv' := by
  by_cases hx : ∃ p : List Nat × Int64, TOrd n mv p.1 p.2
  · obtain ⟨p, hp⟩ := hx
    rw [hp.of, (hp.congr h).of]
  · have hx' : ¬ ∃ p : List Nat × Int64, TOrd n mv' p.1 p.2 := by
      rintro ⟨p, hp⟩
      exact hx ⟨p, hp.congr (fun j hj => (h j hj).symm)⟩
    unfold ordOf
    rw [dif_neg hx, dif_neg hx']
theorem mvH_app {hv : List HV} {h : HV} {ns : List Nat} (hns : ∀ n ∈ ns, n < hv.length) : ∀ j, j < ns.length → mvH hv ns j = mvH (hv ++ [h]) ns j := by
  intro j hj
  have := hns _ (List.getElem_mem hj)
  unfold mvH
  rw [List.getD_eq_getElem?_getD (l := ns), List.getElem?_eq_getElem hj]
  simp only [Option.getD_some, List.getD_eq_getElem?_getD]
  rw [List.getElem?_append_left this]
theorem tns_other {hv : List HV} {h : HV} {i j : Nat} (hi : h.1 = nI i) (hij : i ≠ j) (h1 : i < 1000) (h2 : j < 1000) : tns (hv ++ [h]) j = tns hv j := by
  show tnsA (nI j) 0 (hv ++ [h]) = tnsA (nI j) 0 hv
  rw [tnsA_app, if_neg, List.append_nil]
  rw [hi, nI_eq (by omega) (by omega)]
  exact hij
theorem tor_other {hv : List HV} {h : HV} {i j : Nat} (hi : h.1 = nI i) (hij : i ≠ j) (h1 : i < 1000) (h2 : j < 1000) : tor (hv ++ [h]) j = tor hv j ∧ tln (hv ++ [h]) j = tln hv j := by
  unfold tor tln
  rw [tns_other hi hij h1 h2, ← ordOf_congr (mvH_app (fun n hn => tns_lt hn))]
  exact ⟨rfl, rfl⟩
theorem tnsA_none {x : Int32} : ∀ {hv : List HV} {k : Nat}, (∀ h ∈ hv, h.1 ≠ x) → tnsA x k hv = []
  | [], _, _ => rfl
  | g :: r, k, hn => by
    unfold tnsA
    rw [if_neg (hn g (by simp)), tnsA_none (fun h hh => hn h (by simp [hh]))]
/-- every hit is of one of n tools -/
def HvT (n : Nat) (hv : List HV) : Prop := ∀ h ∈ hv, ∃ j, j < n ∧ h.1 = nI j
theorem DrOK.tool {ts : List TV} {hs : List (Nat × HV)} {q : Nat} {dm : Int32} {pl : Bool} (h : DrOK ts hs) (hv : HvT ts.length (hs.map (fun h => h.2))) (hl : ts.length ≤ 10) (hd : tvOK (dm, pl)) : DrOK (ts ++ [(q, dm, pl, [], [], 0, false, 8, 8)]) hs := by
  refine ⟨fun i t hi => ?_, h.2⟩
  rcases Nat.lt_or_ge i ts.length with g | g
  · rw [List.getElem?_append_left g] at hi
    exact h.1 i t hi
  · rw [List.getElem?_append_right g] at hi
    cases hk : i - ts.length with
    | zero =>
      rw [hk] at hi
      cases hi
      have ei : i = ts.length := by omega
      refine ⟨?_, (show 8 ≤ 128 by omega), (show 8 ≤ 128 by omega), hd, fun h => by cases h⟩
      show [] = (tns (hs.map (fun h => h.2)) i).map nI
      rw [show tns (hs.map (fun h => h.2)) i = [] from tnsA_none (fun g hg e => ?_)]
      · rfl
      · obtain ⟨j, hj, ej⟩ := hv g hg
        rw [ej, nI_eq (by omega) (by omega)] at e
        omega
    | succ k =>
      rw [hk] at hi
      cases hi
theorem DrOK.hit {ts : List TV} {hs : List (Nat × HV)} {q i : Nat} {h : HV} {t : TV} (hok : DrOK ts hs) (hi : ts[i]? = some t) (hh : h.1 = nI i) (ho : hOK h) (hl : ts.length ≤ 10) (hs60 : hs.length < 60) : DrOK (ts.set i (tadd t (nI hs.length))) (hs ++ [(q, h)]) := by
  have hil := (List.getElem?_eq_some_iff.mp hi).1
  have em : (hs ++ [(q, h)]).map (fun h => h.2) = hs.map (fun h => h.2) ++ [h] := by simp
  refine ⟨fun j u hj => ?_, fun g hg => ?_⟩
  · rw [em]
    by_cases hij : i = j
    · subst hij
      rw [List.getElem?_set_self hil] at hj
      cases hj
      obtain ⟨k1, k2, k3, k4, k5⟩ := hok.1 i t hi
      have htl : (tns (hs.map (fun h => h.2)) i).length ≤ hs.length := by
        have := tnsA_len (nI i) (hs.map (fun h => h.2)) 0
        rw [List.length_map] at this
        exact this
      refine ⟨?_, ?_, k3, k4, fun h => by cases h⟩
      · show t.2.2.2.1 ++ [nI hs.length] = (tnsA (nI i) 0 (hs.map (fun h => h.2) ++ [h])).map nI
        rw [tnsA_app, if_pos hh, k1]
        simp
      · show rcap t.2.2.2.2.2.2.2.1 t.2.2.2.1.length ≤ 128
        rw [k1, List.length_map]
        unfold rcap
        split <;> omega
    · rw [List.getElem?_set_ne hij] at hj
      obtain ⟨k1, k2, k3, k4, k5⟩ := hok.1 j u hj
      have hjl := (List.getElem?_eq_some_iff.mp hj).1
      obtain ⟨e1, e2⟩ := tor_other (hv := hs.map (fun h => h.2)) hh hij (by omega) (by omega)
      refine ⟨?_, k2, k3, k4, fun hp => ?_⟩
      · rw [tns_other hh hij (by omega) (by omega)]
        exact k1
      · rw [e1, e2]
        exact k5 hp
  · rcases List.mem_append.mp hg with hg | hg
    · exact hok.2 g hg
    · rw [List.mem_singleton.mp hg]
      exact ho
theorem HvT.more {n m : Nat} {hv : List HV} (h : HvT n hv) (hm : n ≤ m) : HvT m hv := fun g hg => by
  obtain ⟨j, a, b⟩ := h g hg
  exact ⟨j, by omega, b⟩
theorem HvT.add {n i : Nat} {hv : List HV} {h : HV} (h1 : HvT n hv) (hi : i < n) (hh : h.1 = nI i) : HvT n (hv ++ [h]) := fun g hg => by
  rcases List.mem_append.mp hg with hg | hg
  · exact h1 g hg
  · rw [List.mem_singleton.mp hg]
    exact ⟨i, hi, hh⟩
/-- lines go on -/
theorem pLayerLine_le {xs : List Int32} {p : Nat} (hp : p ≤ xs.length) : (pLayerLine xs p).2 ≤ xs.length ∧ ((pLayerLine xs p).1 ≠ none → p < (pLayerLine xs p).2) := by
  have h1 := pPart_le (xs := xs) (c := 76) (sg := false) (by decide) hp
  unfold pLayerLine
  generalize pPart xs 76 false p = P1 at h1
  obtain ⟨o1, p1⟩ := P1
  cases o1 with
  | none => exact ⟨h1.2.1, fun h => absurd rfl h⟩
  | some x =>
    have h2 := pPart_le (xs := xs) (c := 44) (sg := false) (by decide) h1.2.1
    have h3 := h1.2.2 (by simp)
    dsimp only at h2 h3 ⊢
    generalize pPart xs 44 false p1 = P2 at h2
    obtain ⟨o2, p2⟩ := P2
    cases o2 with
    | none => exact ⟨h2.2.1, fun h => absurd rfl h⟩
    | some y =>
      have h4 := pLit_le (xs := xs) (cs := [10]) (by decide) h2.2.1
      dsimp only at h2 h4 ⊢
      generalize pLit xs [10] p2 = P3 at h4
      obtain ⟨o3, p3⟩ := P3
      cases o3 with
      | false => exact ⟨h4.2, fun h => absurd rfl h⟩
      | true =>
        dsimp only at h4 ⊢
        split
        · exact ⟨h4.2, fun _ => by dsimp only; omega⟩
        · exact ⟨hp, fun h => absurd rfl h⟩
theorem pToolLine_le {xs : List Int32} {n p : Nat} (hp : p ≤ xs.length) : (pToolLine xs n p).2 ≤ xs.length ∧ ((pToolLine xs n p).1 ≠ none → p < (pToolLine xs n p).2) := by
  have h1 := pPart_le (xs := xs) (c := 84) (sg := false) (by decide) hp
  unfold pToolLine
  generalize pPart xs 84 false p = P1 at h1
  obtain ⟨o1, p1⟩ := P1
  cases o1 with
  | none => exact ⟨h1.2.1, fun h => absurd rfl h⟩
  | some x =>
    have h2 := pPart_le (xs := xs) (c := 67) (sg := false) (by decide) h1.2.1
    have h3 := h1.2.2 (by simp)
    dsimp only at h2 h3 ⊢
    generalize pPart xs 67 false p1 = P2 at h2
    obtain ⟨o2, p2⟩ := P2
    cases o2 with
    | none => exact ⟨h2.2.1, fun h => absurd rfl h⟩
    | some y =>
      have h4 := pLit_le (xs := xs) (cs := if gt xs p2 = 80 then [80, 10] else [78, 10]) (by split <;> decide) h2.2.1
      dsimp only at h2 h4 ⊢
      generalize pLit xs (if gt xs p2 = 80 then [80, 10] else [78, 10]) p2 = P3 at h4
      obtain ⟨o3, p3⟩ := P3
      cases o3 with
      | false => exact ⟨h4.2, fun h => absurd rfl h⟩
      | true =>
        dsimp only at h4 ⊢
        split
        · exact ⟨h4.2, fun _ => by dsimp only; omega⟩
        · exact ⟨hp, fun h => absurd rfl h⟩
theorem pChoice_le {xs : List Int32} {n p : Nat} (hp : p ≤ xs.length) : (pChoice xs n p).2 ≤ xs.length ∧ ((pChoice xs n p).1 ≠ none → p < (pChoice xs n p).2) := by
  have h1 := pPart_le (xs := xs) (c := 84) (sg := false) (by decide) hp
  unfold pChoice
  generalize pPart xs 84 false p = P1 at h1
  obtain ⟨o1, p1⟩ := P1
  cases o1 with
  | none => exact ⟨h1.2.1, fun h => absurd rfl h⟩
  | some x =>
    have h3 := h1.2.2 (by simp)
    have h4 := pLit_le (xs := xs) (cs := [10]) (by decide) h1.2.1
    dsimp only at h3 h4 ⊢
    generalize pLit xs [10] p1 = P3 at h4
    obtain ⟨o3, p3⟩ := P3
    cases o3 with
    | false => exact ⟨h4.2, fun h => absurd rfl h⟩
    | true =>
      dsimp only at h4 ⊢
      split
      · exact ⟨h4.2, fun _ => by dsimp only; omega⟩
      · exact ⟨hp, fun h => absurd rfl h⟩
theorem pHitLine_le {xs : List Int32} {nh p : Nat} {ch f t : Int32} (hp : p ≤ xs.length) : (pHitLine xs nh ch f t p).2 ≤ xs.length ∧ ((pHitLine xs nh ch f t p).1 ≠ none → p < (pHitLine xs nh ch f t p).2) := by
  have h1 := pPlace_le (xs := xs) hp
  unfold pHitLine
  generalize pPlace xs p = P1 at h1
  obtain ⟨o1, p1⟩ := P1
  cases o1 with
  | none => exact ⟨h1.2.1, fun h => absurd rfl h⟩
  | some a =>
    have h3 := h1.2.2 (by simp)
    dsimp only at h1 h3 ⊢
    by_cases hg : gt xs p1 = 71
    · rw [if_pos hg]
      have h4 := pLit_le (xs := xs) (cs := [71, 56, 53]) (by decide) h1.2.1
      generalize pLit xs [71, 56, 53] p1 = P2 at h4
      obtain ⟨o2, p2⟩ := P2
      cases o2 with
      | false => exact ⟨h4.2, fun h => absurd rfl h⟩
      | true =>
        have h5 := pPlace_le (xs := xs) h4.2
        dsimp only at h4 h5 ⊢
        generalize pPlace xs p2 = P3 at h5
        obtain ⟨o3, p3⟩ := P3
        cases o3 with
        | none => exact ⟨h5.2.1, fun h => absurd rfl h⟩
        | some b =>
          have h6 := pLit_le (xs := xs) (cs := [10]) (by decide) h5.2.1
          dsimp only at h5 h6 ⊢
          generalize pLit xs [10] p3 = P4 at h6
          obtain ⟨o4, p4⟩ := P4
          cases o4 with
          | false => exact ⟨h6.2, fun h => absurd rfl h⟩
          | true =>
            dsimp only at h6 ⊢
            split
            · exact ⟨h6.2, fun _ => by dsimp only; omega⟩
            · exact ⟨hp, fun h => absurd rfl h⟩
    · rw [if_neg hg]
      have h6 := pLit_le (xs := xs) (cs := [10]) (by decide) h1.2.1
      generalize pLit xs [10] p1 = P4 at h6
      obtain ⟨o4, p4⟩ := P4
      cases o4 with
      | false => exact ⟨h6.2, fun h => absurd rfl h⟩
      | true =>
        dsimp only at h6 ⊢
        split
        · exact ⟨h6.2, fun _ => by dsimp only; omega⟩
        · exact ⟨hp, fun h => absurd rfl h⟩
theorem pPart_no {xs : List Int32} {c : Int32} {sg : Bool} {p : Nat} (h : gt xs p ≠ c) : pPart xs c sg p = (none, p) := by
  unfold pPart
  rw [if_neg h]
theorem pLayerLine_no {xs : List Int32} {p : Nat} (h : gt xs p ≠ 76) : pLayerLine xs p = (none, p) := by
  unfold pLayerLine
  rw [pPart_no h]
theorem pChoice_no {xs : List Int32} {n p : Nat} (h : gt xs p ≠ 84) : pChoice xs n p = (none, p) := by
  unfold pChoice
  rw [pPart_no h]
theorem pLit_no {xs : List Int32} {c : Int32} {cs : List Int32} {p : Nat} (h : gt xs p ≠ c) : pLit xs (c :: cs) p = (false, p) := by
  unfold pLit
  rw [if_neg h]
end
section
/-! lines as steps of reading -/
theorem pLayerLine_ok {xs : List Int32} {p q : Nat} {x : Int32 × Int32} (h : pLayerLine xs p = (some x, q)) : gt xs p = 76 ∧ layOK x.1 ∧ layOK x.2 := by
  have hg : gt xs p = 76 := Decidable.byContradiction (fun c => by rw [pLayerLine_no c] at h; cases h)
  refine ⟨hg, ?_⟩
  unfold pLayerLine at h
  generalize pPart xs 76 false p = P1 at h
  obtain ⟨o1, p1⟩ := P1
  cases o1 with
  | none => cases h
  | some a =>
    dsimp only at h
    generalize pPart xs 44 false p1 = P2 at h
    obtain ⟨o2, p2⟩ := P2
    cases o2 with
    | none => cases h
    | some b =>
      dsimp only at h
      generalize pLit xs [10] p2 = P3 at h
      obtain ⟨o3, p3⟩ := P3
      cases o3 with
      | false => cases h
      | true =>
        dsimp only at h
        split at h
        · rename_i g
          cases h
          exact ⟨g.1, g.2.1⟩
        · cases h
theorem pToolLine_ok {xs : List Int32} {n p q : Nat} {x : Int32 × Bool} (h : pToolLine xs n p = (some x, q)) : n < 10 ∧ tvOK x := by
  unfold pToolLine at h
  generalize pPart xs 84 false p = P1 at h
  obtain ⟨o1, p1⟩ := P1
  cases o1 with
  | none => cases h
  | some a =>
    dsimp only at h
    generalize pPart xs 67 false p1 = P2 at h
    obtain ⟨o2, p2⟩ := P2
    cases o2 with
    | none => cases h
    | some b =>
      dsimp only at h
      generalize pLit xs (if gt xs p2 = 80 then [80, 10] else [78, 10]) p2 = P3 at h
      obtain ⟨o3, p3⟩ := P3
      cases o3 with
      | false => cases h
      | true =>
        dsimp only at h
        split at h
        · rename_i g
          cases h
          exact ⟨g.2.2, g.2.1⟩
        · cases h
theorem pChoice_ok {xs : List Int32} {n p q : Nat} {x : Int32} (h : pChoice xs n p = (some x, q)) : gt xs p = 84 ∧ 0 ≤ x.toInt ∧ x.toInt < n := by
  have hg : gt xs p = 84 := Decidable.byContradiction (fun c => by rw [pChoice_no c] at h; cases h)
  refine ⟨hg, ?_⟩
  unfold pChoice at h
  generalize pPart xs 84 false p = P1 at h
  obtain ⟨o1, p1⟩ := P1
  cases o1 with
  | none => cases h
  | some a =>
    dsimp only at h
    generalize pLit xs [10] p1 = P3 at h
    obtain ⟨o3, p3⟩ := P3
    cases o3 with
    | false => cases h
    | true =>
      dsimp only at h
      split at h
      · rename_i g
        cases h
        exact g
      · cases h
theorem pHitLine_ok {xs : List Int32} {nh p q : Nat} {ch f t : Int32} {x : HV} (hf : layOK f) (ht : layOK t) (h : pHitLine xs nh ch f t p = (some x, q)) : nh < 60 ∧ x.1 = ch ∧ hOK x := by
  unfold pHitLine at h
  generalize pPlace xs p = P1 at h
  obtain ⟨o1, p1⟩ := P1
  cases o1 with
  | none => cases h
  | some a =>
    dsimp only at h
    by_cases hg : gt xs p1 = 71
    · rw [if_pos hg] at h
      generalize pLit xs [71, 56, 53] p1 = P2 at h
      obtain ⟨o2, p2⟩ := P2
      cases o2 with
      | false => cases h
      | true =>
        dsimp only at h
        generalize pPlace xs p2 = P3 at h
        obtain ⟨o3, p3⟩ := P3
        cases o3 with
        | none => cases h
        | some b =>
          dsimp only at h
          generalize pLit xs [10] p3 = P4 at h
          obtain ⟨o4, p4⟩ := P4
          cases o4 with
          | false => cases h
          | true =>
            dsimp only at h
            split at h
            · rename_i g
              cases h
              obtain ⟨⟨⟨a1, a2, a3, a4⟩, b1, b2, b3, b4⟩, -, g3⟩ := g
              exact ⟨g3, rfl, ⟨(by show a.1.toInt.natAbs ≤ 1000000; omega), (by show a.2.toInt.natAbs ≤ 1000000; omega), (by show b.1.toInt.natAbs ≤ 1000000; omega), (by show b.2.toInt.natAbs ≤ 1000000; omega)⟩, (show layOK 0 from ⟨by decide, by decide⟩), (show layOK 7 from ⟨by decide, by decide⟩)⟩
            · cases h
    · rw [if_neg hg] at h
      generalize pLit xs [10] p1 = P4 at h
      obtain ⟨o4, p4⟩ := P4
      cases o4 with
      | false => cases h
      | true =>
        dsimp only at h
        split at h
        · rename_i g
          cases h
          obtain ⟨⟨a1, a2, a3, a4⟩, g3⟩ := g
          exact ⟨g3, rfl, ⟨(by show a.1.toInt.natAbs ≤ 1000000; omega), (by show a.2.toInt.natAbs ≤ 1000000; omega), (by show a.1.toInt.natAbs ≤ 1000000; omega), (by show a.2.toInt.natAbs ≤ 1000000; omega)⟩, hf, ht⟩
        · cases h
section RNS
variable {xs : List Int32} {f t ch : Int32} {tv : List (Int32 × Bool)} {hv : List HV} {p q : Nat} {r : Nat ⊕ (List (Int32 × Bool) × List HV)} {hl : Bool}
theorem Rn.m48_ok {s : Bool × Int32 × Int32 × List (Int32 × Bool) × List HV × Int32} (h : pLit xs [77, 52, 56, 10] p = (true, q)) (hr : Rn xs (1, s) q r) : Rn xs (0, s) p r := by
  refine Rn.step (by show 0 < 3; omega) ?_ hr
  unfold pStep
  dsimp only
  rw [if_pos rfl, h]
theorem Rn.m48_bad {s : Bool × Int32 × Int32 × List (Int32 × Bool) × List HV × Int32} (h : pLit xs [77, 52, 56, 10] p = (false, q)) : Rn xs (0, s) p (.inl q) := by
  refine Rn.bad (by show 0 < 3; omega) ?_
  unfold pStep
  dsimp only
  rw [if_pos rfl, h]
theorem Rn.lay_ok {x : Int32 × Int32} (h : pLayerLine xs p = (some x, q)) (hr : Rn xs (1, true, x.1, x.2, [], hv, ch) q r) : Rn xs (1, hl, f, t, [], hv, ch) p r := by
  refine Rn.step (by show 1 < 3; omega) ?_ hr
  unfold pStep
  dsimp only
  rw [if_neg (by decide), if_pos rfl, if_pos ⟨(pLayerLine_ok h).1, rfl⟩, h]
theorem Rn.lay_bad (h : pLayerLine xs p = (none, q)) (hg : hl = false ∨ gt xs p = 76) : Rn xs (1, hl, f, t, [], hv, ch) p (.inl q) := by
  refine Rn.bad (by show 1 < 3; omega) ?_
  unfold pStep
  dsimp only
  rw [if_neg (by decide), if_pos rfl]
  by_cases c : gt xs p = 76
  · rw [if_pos ⟨c, rfl⟩, h]
  · rw [pLayerLine_no c] at h
    cases h
    have hg : hl = false := hg.resolve_right c
    subst hg
    rw [if_neg (fun q => c q.1), if_neg (fun q => by cases q.2), if_neg (fun q => by cases q.2)]
theorem Rn.tool_ok {x : Int32 × Bool} (h : pToolLine xs tv.length p = (some x, q)) (hg : gt xs p = 84) (hr : Rn xs (1, true, f, t, tv ++ [x], hv, ch) q r) : Rn xs (1, true, f, t, tv, hv, ch) p r := by
  refine Rn.step (by show 1 < 3; omega) ?_ hr
  unfold pStep
  dsimp only
  rw [if_neg (by decide), if_pos rfl, if_neg (fun q => by rw [hg] at q; exact absurd q.1 (by decide)), if_pos ⟨hg, rfl⟩, h]
theorem Rn.tool_bad (h : pToolLine xs tv.length p = (none, q)) (hg : gt xs p = 84) : Rn xs (1, true, f, t, tv, hv, ch) p (.inl q) := by
  refine Rn.bad (by show 1 < 3; omega) ?_
  unfold pStep
  dsimp only
  rw [if_neg (by decide), if_pos rfl, if_neg (fun q => by rw [hg] at q; exact absurd q.1 (by decide)), if_pos ⟨hg, rfl⟩, h]
theorem Rn.pct_ok (h : pLit xs [37, 10] p = (true, q)) (hr : Rn xs (2, true, f, t, tv, hv, ch) q r) : Rn xs (1, true, f, t, tv, hv, ch) p r := by
  have hg : gt xs p = 37 := Decidable.byContradiction (fun c => by rw [pLit_no c] at h; cases h)
  refine Rn.step (by show 1 < 3; omega) ?_ hr
  unfold pStep
  dsimp only
  rw [if_neg (by decide), if_pos rfl, if_neg (fun q => by rw [hg] at q; exact absurd q.1 (by decide)), if_neg (fun q => by rw [hg] at q; exact absurd q.1 (by decide)), if_pos ⟨hg, rfl⟩, h]
theorem Rn.pct_bad (h : pLit xs [37, 10] p = (false, q)) (h1 : tv = [] → gt xs p ≠ 76) (h2 : gt xs p ≠ 84) : Rn xs (1, true, f, t, tv, hv, ch) p (.inl q) := by
  refine Rn.bad (by show 1 < 3; omega) ?_
  unfold pStep
  dsimp only
  rw [if_neg (by decide), if_pos rfl, if_neg (fun q => h1 q.2 q.1), if_neg (fun q => h2 q.1)]
  by_cases hg : gt xs p = 37
  · rw [if_pos ⟨hg, rfl⟩, h]
  · rw [pLit_no hg] at h
    cases h
    rw [if_neg (fun q => hg q.1)]
theorem Rn.cho_ok {x : Int32} (h : pChoice xs tv.length p = (some x, q)) (hr : Rn xs (2, hl, f, t, tv, hv, x) q r) : Rn xs (2, hl, f, t, tv, hv, ch) p r := by
  refine Rn.step (by show 2 < 3; omega) ?_ hr
  unfold pStep
  dsimp only
  rw [if_neg (by decide), if_neg (by decide), if_pos (pChoice_ok h).1, h]
theorem Rn.cho_bad (h : pChoice xs tv.length p = (none, q)) (h1 : gt xs p ≠ 77) (h2 : ¬ (gt xs p = 88 ∧ ch ≠ -1)) : Rn xs (2, hl, f, t, tv, hv, ch) p (.inl q) := by
  refine Rn.bad (by show 2 < 3; omega) ?_
  unfold pStep
  dsimp only
  rw [if_neg (by decide), if_neg (by decide)]
  by_cases c : gt xs p = 84
  · rw [if_pos c, h]
  · rw [pChoice_no c] at h
    cases h
    rw [if_neg c, if_neg h2, pLit_no h1]
theorem Rn.hit_ok {x : HV} (h : pHitLine xs hv.length ch f t p = (some x, q)) (hg : gt xs p = 88) (hc : ch ≠ -1) (hr : Rn xs (2, hl, f, t, tv, hv ++ [x], ch) q r) : Rn xs (2, hl, f, t, tv, hv, ch) p r := by
  refine Rn.step (by show 2 < 3; omega) ?_ hr
  unfold pStep
  dsimp only
  rw [if_neg (by decide), if_neg (by decide), if_neg (by rw [hg]; decide), if_pos ⟨hg, hc⟩, h]
theorem Rn.hit_bad (h : pHitLine xs hv.length ch f t p = (none, q)) (hg : gt xs p = 88) (hc : ch ≠ -1) : Rn xs (2, hl, f, t, tv, hv, ch) p (.inl q) := by
  refine Rn.bad (by show 2 < 3; omega) ?_
  unfold pStep
  dsimp only
  rw [if_neg (by decide), if_neg (by decide), if_neg (by rw [hg]; decide), if_pos ⟨hg, hc⟩, h]
theorem Rn.m30_ok (h : pLit xs [77, 51, 48, 10] p = (true, q)) (hr : Rn xs (3, hl, f, t, tv, hv, ch) q r) : Rn xs (2, hl, f, t, tv, hv, ch) p r := by
  have hg : gt xs p = 77 := Decidable.byContradiction (fun c => by rw [pLit_no c] at h; cases h)
  refine Rn.step (by show 2 < 3; omega) ?_ hr
  unfold pStep
  dsimp only
  rw [if_neg (by decide), if_neg (by decide), if_neg (by rw [hg]; decide), if_neg (by rw [hg]; exact fun q => absurd q.1 (by decide)), h]
theorem Rn.m30_bad (h : pLit xs [77, 51, 48, 10] p = (false, q)) (hg : gt xs p = 77 ∨ gt xs p = -1) : Rn xs (2, hl, f, t, tv, hv, ch) p (.inl q) := by
  refine Rn.bad (by show 2 < 3; omega) ?_
  unfold pStep
  dsimp only
  rw [if_neg (by decide), if_neg (by decide), if_neg (by rcases hg with hg | hg <;> rw [hg] <;> decide), if_neg (by rcases hg with hg | hg <;> rw [hg] <;> exact fun q => absurd q.1 (by decide)), h]
end RNS
end
section
/-! TextReader: readLayers, readTools, readHits, firstWrong -/
theorem i2000 {i : Nat} (h : i < 2 ^ 31) : ((2000 : Int32) ≤ nI i) ↔ 2000 ≤ i := by
  rw [show (2000 : Int32) = nI 2000 from rfl, nI_leI (by omega) h]
abbrev RR : Type := Nat ⊕ (List (Int32 × Bool) × List HV)
section R6
variable {l : Launch} {D : xD} {R : Room}
theorem ct_Tr_readLayers {a tx dr cp : Nat} {xs : List Int32} {Cx : va_W} {G : RR → Prop} (hx : IsRow D tx 2000 cp xs Cx) (hG : ∀ r, Rn xs rs0 0 r → G r) (hr : rmOk R 6 0 0) : Ct l mTr_readLayers D R [.ref a] [sTr a tx dr 0 0 0 (-1) 0 0 0, Cx] (fun v S => (v = some (.int 1) ∧ ∃ p f t nu, S = [sTr a tx dr p f t (-1) nu 0 0, Cx] ∧ p ≤ xs.length ∧ gt xs p ≠ 76 ∧ layOK f ∧ layOK t ∧ ∀ r, Rn xs (1, true, f, t, [], [], -1) p r → G r) ∨ (v = some (.int 0) ∧ ∃ p f t nu, S = [sTr a tx dr p f t (-1) nu 0 0, Cx] ∧ p ≤ xs.length ∧ G (.inl p))) := by
  obtain ⟨r1, r2, r3, r4⟩ := hr
  obtain ⟨arr, fx, eCx, x1, x2, x3, x4, x5, x6⟩ := id hx
  refine Ct.of rfl (by decide) tkTr_readLayers (Nat.le_of_ble_eq_true rfl) (fun A => ?_)
  generalize hQ : (fun (v : Option Value) S => (v = some (.int 1) ∧ ∃ p f t nu, S = [sTr a tx dr p f t (-1) nu 0 0, Cx] ∧ p ≤ xs.length ∧ gt xs p ≠ 76 ∧ layOK f ∧ layOK t ∧ ∀ r, Rn xs (1, true, f, t, [], [], -1) p r → G r) ∨ (v = some (.int 0) ∧ ∃ p f t nu, S = [sTr a tx dr p f t (-1) nu 0 0, Cx] ∧ p ≤ xs.length ∧ G (.inl p))) = Q
  have failed : ∀ (p : Nat) (f t nu : Int32) (i : Nat) (lv9 : List (Nat × Value)), (∀ q ∈ [(2, Value.int (nI i)), (1, .int 0), (0, .ref a)], q ∈ lv9) → p ≤ xs.length → G (.inl p) → Ex l mTr_readLayers D R A (xQ D A Q) R.cells R.slots 24 lv9 [] [sTr a tx dr p f t (-1) nu 0 0, Cx] 0 0 := by
    intro p f t nu i lv9 hlv hp hg
    refine Ex.lv hlv ?_
    have s62 : Ex l mTr_readLayers D R A (xQ D A Q) R.cells R.slots 62 [(2, Value.int (nI i)), (1, .int 0), (0, .ref a)] [] [sTr a tx dr p f t (-1) nu 0 0, Cx] 0 0 := by
      refine Ex.p rfl ?_
      refine Ex.zret rfl rfl (Or.inl rfl) (Nat.zero_le _) (Nat.zero_le _) rfl ?_
      subst hQ
      exact Or.inr ⟨rfl, _, _, _, _, rfl, hp, hg⟩
    refine Ex.p rfl ?_
    refine Ex.p rfl ?_
    refine Ex.br rfl (fun _ => s62) (fun _ => ?_)
    refine Ex.p rfl ?_
    exact Ex.br rfl (fun _ => s62) (fun c => absurd rfl c)
  have loop : ∀ (m i p : Nat) (f t nu : Int32), 2000 - i < m → i ≤ p → p ≤ xs.length → layOK f → layOK t → (∀ r, Rn xs (1, true, f, t, [], [], -1) p r → G r) → ∀ lv9 : List (Nat × Value), (∀ q ∈ [(2, Value.int (nI i)), (1, .int 1), (0, .ref a)], q ∈ lv9) →
      Ex l mTr_readLayers D R A (xQ D A Q) R.cells R.slots 24 lv9 [] [sTr a tx dr p f t (-1) nu 0 0, Cx] 0 0 := by
    intro m
    induction m with
    | zero => intro i p f t nu h; omega
    | succ m ih =>
      intro i p f t nu hm hip hp hf ht hGp lv9 hlv
      refine Ex.lv hlv ?_
      have s62 : gt xs p ≠ 76 → Ex l mTr_readLayers D R A (xQ D A Q) R.cells R.slots 62 [(2, Value.int (nI i)), (1, .int 1), (0, .ref a)] [] [sTr a tx dr p f t (-1) nu 0 0, Cx] 0 0 := by
        intro hg
        refine Ex.p rfl ?_
        refine Ex.zret rfl rfl (Or.inr rfl) (Nat.zero_le _) (Nat.zero_le _) rfl ?_
        subst hQ
        exact Or.inl ⟨rfl, _, _, _, _, rfl, hp, hg, hf, ht, hGp⟩
      refine Ex.p rfl ?_
      refine Ex.p rfl ?_
      refine Ex.br rfl (fun c => ?_) (fun c => ?_)
      · have c := (i2000 (by omega)).mp c
        exact s62 (by rw [gt_end (by omega)]; decide)
      · have c : ¬ 2000 ≤ i := fun q => c ((i2000 (by omega)).mpr q)
        refine Ex.p rfl ?_
        refine Ex.br rfl (fun c => absurd c (show (1 : Int32) ≠ 0 by decide)) (fun _ => ?_)
        refine Ex.p rfl ?_
        refine Ex.gf 0 0 rfl rfl rfl ?_
        refine Ex.p rfl ?_
        refine Ex.gf 0 0 rfl rfl rfl ?_
        refine Ex.cv (Mc := mRo_get) (Rc := rm 0 0 0) (As := [.int (nI p)]) (rest := []) (Sr := [sTr a tx dr p f t (-1) nu 0 0]) (ic := 1) (jc := 0) (ci := 5) [1] [0] (ct_Ro_get hx) rfl lk_7_50 lcRo_get rfl rfl rfl rfl rfl (by decide) rfl (by rw [eCx]; rfl) rfl (by decide) ⟨by dsimp only [rm]; omega, by show 8 + (2 + 11) + 0 ≤ R.locals; omega⟩ (Nat.le_of_ble_eq_true rfl) (by dsimp only [rm]; omega) (by dsimp only [rm]; omega) ?_
        rintro w S1 ⟨rfl, rfl⟩
        rw [rget_gt (by omega)]
        refine Ex.sub (S' := [sTr a tx dr p f t (-1) nu 0 0, Cx]) [0, 1] rfl rfl ?_
        refine Ex.p rfl ?_
        refine Ex.br rfl (fun c => s62 c) (fun c => ?_)
        have c : gt xs p = 76 := Decidable.byContradiction c
        refine Ex.p rfl ?_
        refine Ex.cv (Mc := mTr_readLayerLine) (Rc := rm 5 0 0) (As := []) (rest := []) (Sr := []) (ic := 0) (jc := 0) (ci := 7) [0, 1] [] (ct_Tr_readLayerLine hx hp (rm_ok _ _ _)) rfl lk_7_47 lcTr_readLayerLine rfl rfl rfl rfl rfl (by decide) rfl rfl rfl (by decide) ⟨by dsimp only [rm]; omega, by show 8 + (2 + 11) + 200 ≤ R.locals; omega⟩ (Nat.le_of_ble_eq_true rfl) (by dsimp only [rm]; omega) (by dsimp only [rm]; omega) ?_
        rintro w S1 ⟨rfl, f', t', nu', rfl, hft⟩
        have hle := pLayerLine_le (xs := xs) hp
        generalize hP : pLayerLine xs p = P at hle hft
        obtain ⟨o, q⟩ := P
        refine Ex.p rfl ?_
        refine Ex.p rfl ?_
        refine Ex.p rfl ?_
        rw [i_add1]
        cases o with
        | none => exact failed q f' t' nu' (i + 1) _ (fun z h => by
            simp only [List.mem_cons, List.not_mem_nil, or_false] at h
            rcases h with rfl | rfl | rfl <;> first | (simp [xs1, lv_args, Value.category, b32, nI]; done) | (simp [xs1, lv_args, Value.category, b32, nI]; decide) | (simp [xs1, lv_args, Value.category, b32, nI]; exact Or.inr (by decide))) hle.1 (hGp _ (Rn.lay_bad hP (Or.inr c)))
        | some x =>
          obtain ⟨rfl, rfl⟩ := hft _ rfl
          have hok := pLayerLine_ok hP
          have hlt : p < q := hle.2 (by simp)
          refine ih (i + 1) q _ _ nu' (by omega) (by omega) hle.1 hok.2.1 hok.2.2 (fun r hr => hGp r (Rn.lay_ok hP hr)) _ (fun z h => ?_)
          simp only [List.mem_cons, List.not_mem_nil, or_false] at h
          rcases h with rfl | rfl | rfl <;> first | (simp [xs1, lv_args, Value.category, b32, nI]; done) | (simp [xs1, lv_args, Value.category, b32, nI]; decide) | (simp [xs1, lv_args, Value.category, b32, nI]; exact Or.inr (by decide))
  refine Ex.p rfl ?_
  refine Ex.ldcS rfl ?_
  have hle := pLit_le (xs := xs) (cs := [77, 52, 56, 10]) (by decide) (Nat.zero_le _)
  refine Ex.cv (Mc := mTr_passes) (Rc := rm 4 0 0) (As := [.ref (D.2.2.2.1 0)]) (rest := []) (Sr := []) (ic := 0) (jc := 0) (ci := 7) [0, 1] [] (ct_Tr_passes hx (by decide) (Nat.zero_le _) (rm_ok _ _ _)) rfl lk_7_43 lcTr_passes rfl rfl rfl rfl rfl (by decide) rfl rfl rfl (by decide) ⟨by dsimp only [rm]; omega, by show 8 + (3 + 11) + 160 ≤ R.locals; omega⟩ (Nat.le_of_ble_eq_true rfl) (by dsimp only [rm]; omega) (by dsimp only [rm]; omega) ?_
  rintro w S1 ⟨rfl, rfl⟩
  rw [show txt 0 = [77, 52, 56, 10] from rfl]
  generalize hP : pLit xs [77, 52, 56, 10] 0 = P at hle
  obtain ⟨o, p⟩ := P
  cases o with
  | false =>
    refine Ex.br rfl (fun _ => ?_) (fun c => absurd rfl c)
    refine Ex.p rfl ?_
    refine Ex.p rfl ?_
    refine Ex.p rfl ?_
    refine Ex.p rfl ?_
    exact failed p 0 0 0 0 _ (fun z h => by
      simp only [List.mem_cons, List.not_mem_nil, or_false] at h
      rcases h with rfl | rfl | rfl <;> first | (simp [xs1, lv_args, Value.category, b32, nI]; done) | (simp [xs1, lv_args, Value.category, b32, nI]; decide) | (simp [xs1, lv_args, Value.category, b32, nI]; exact Or.inr (by decide))) hle.2 (hG _ (Rn.m48_bad hP))
  | true =>
    refine Ex.br rfl (fun c => absurd c (show (1 : Int32) ≠ 0 by decide)) (fun _ => ?_)
    have hp : p ≤ xs.length := hle.2
    refine Ex.p rfl ?_
    refine Ex.cv (Mc := mTr_readLayerLine) (Rc := rm 5 0 0) (As := []) (rest := []) (Sr := []) (ic := 0) (jc := 0) (ci := 7) [0, 1] [] (ct_Tr_readLayerLine hx hp (rm_ok _ _ _)) rfl lk_7_47 lcTr_readLayerLine rfl rfl rfl rfl rfl (by decide) rfl rfl rfl (by decide) ⟨by dsimp only [rm]; omega, by show 8 + (2 + 11) + 200 ≤ R.locals; omega⟩ (Nat.le_of_ble_eq_true rfl) (by dsimp only [rm]; omega) (by dsimp only [rm]; omega) ?_
    rintro w S1 ⟨rfl, f', t', nu', rfl, hft⟩
    have hle := pLayerLine_le (xs := xs) hp
    generalize hP2 : pLayerLine xs p = P at hle hft
    obtain ⟨o, q⟩ := P
    cases o with
    | none =>
      refine Ex.br rfl (fun _ => ?_) (fun c => absurd rfl c)
      refine Ex.p rfl ?_
      refine Ex.p rfl ?_
      refine Ex.p rfl ?_
      refine Ex.p rfl ?_
      exact failed q f' t' nu' 0 _ (fun z h => by
        simp only [List.mem_cons, List.not_mem_nil, or_false] at h
        rcases h with rfl | rfl | rfl <;> first | (simp [xs1, lv_args, Value.category, b32, nI]; done) | (simp [xs1, lv_args, Value.category, b32, nI]; decide) | (simp [xs1, lv_args, Value.category, b32, nI]; exact Or.inr (by decide))) hle.1 (hG _ (Rn.m48_ok hP (Rn.lay_bad hP2 (Or.inl rfl))))
    | some x =>
      obtain ⟨rfl, rfl⟩ := hft _ rfl
      have hok := pLayerLine_ok hP2
      refine Ex.br rfl (fun c => absurd c (show (1 : Int32) ≠ 0 by decide)) (fun _ => ?_)
      refine Ex.p rfl ?_
      refine Ex.p rfl ?_
      refine Ex.p rfl ?_
      refine Ex.p rfl ?_
      refine Ex.p rfl ?_
      refine loop 2001 0 q _ _ nu' (by omega) (by omega) hle.1 hok.2.1 hok.2.2 (fun r hr => hG r (Rn.m48_ok hP (Rn.lay_ok hP2 hr))) _ (fun z h => ?_)
      simp only [List.mem_cons, List.not_mem_nil, or_false] at h
      rcases h with rfl | rfl | rfl <;> first | (simp [xs1, lv_args, Value.category, b32, nI]; done) | (simp [xs1, lv_args, Value.category, b32, nI]; decide) | (simp [xs1, lv_args, Value.category, b32, nI]; exact Or.inr (by decide))
theorem ct_Tr_readTools {a tx d p0 cp : Nat} {f t nu : Int32} {xs : List Int32} {Cx Cd : va_W} {G : RR → Prop} (hx : IsRow D tx 2000 cp xs Cx) (hd : IsDr D d [] [] Cd [] []) (hp0 : p0 ≤ xs.length) (h76 : gt xs p0 ≠ 76) (hG : ∀ r, Rn xs (1, true, f, t, [], [], -1) p0 r → G r) (hr : rmOk R 6 55 308) : Ct l mTr_readTools D R [.ref a] [sTr a tx d p0 f t (-1) nu 0 0, Cx, Cd, []] (fun v S => (v = some (.int 1) ∧ ∃ p nu ts Cd T, S = [sTr a tx d p f t (-1) nu 0 0, Cx, Cd, T] ∧ p ≤ xs.length ∧ IsDr D d ts [] Cd T [] ∧ DrOK ts [] ∧ ∀ r, Rn xs (2, true, f, t, ts.map tvo, [], -1) p r → G r) ∨ (v = some (.int 0) ∧ ∃ p nu ts Cd T, S = [sTr a tx d p f t (-1) nu 0 0, Cx, Cd, T] ∧ p ≤ xs.length ∧ IsDr D d ts [] Cd T [] ∧ G (.inl p))) := by
  obtain ⟨r1, r2, r3, r4⟩ := hr
  obtain ⟨arr, fx, eCx, x1, x2, x3, x4, x5, x6⟩ := id hx
  refine Ct.of rfl (by decide) tkTr_readTools (Nat.le_of_ble_eq_true rfl) (fun A => ?_)
  generalize hQ : (fun (v : Option Value) S => (v = some (.int 1) ∧ ∃ p nu ts Cd T, S = [sTr a tx d p f t (-1) nu 0 0, Cx, Cd, T] ∧ p ≤ xs.length ∧ IsDr D d ts [] Cd T [] ∧ DrOK ts [] ∧ ∀ r, Rn xs (2, true, f, t, ts.map tvo, [], -1) p r → G r) ∨ (v = some (.int 0) ∧ ∃ p nu ts Cd T, S = [sTr a tx d p f t (-1) nu 0 0, Cx, Cd, T] ∧ p ≤ xs.length ∧ IsDr D d ts [] Cd T [] ∧ G (.inl p))) = Q
  have failed : ∀ (p : Nat) (nu : Int32) (i k n : Nat) (ts : List TV) (Cd T : va_W) (lv9 : List (Nat × Value)), (∀ q ∈ [(2, Value.int (nI i)), (1, .int 0), (0, .ref a)], q ∈ lv9) → p ≤ xs.length → IsDr D d ts [] Cd T [] → G (.inl p) → k ≤ R.cells → n ≤ R.slots → Ex l mTr_readTools D R A (xQ D A Q) R.cells R.slots 4 lv9 [] [sTr a tx d p f t (-1) nu 0 0, Cx, Cd, T] k n := by
    intro p nu i k n ts Cd T lv9 hlv hp hd hg hk hn
    refine Ex.lv hlv ?_
    have s42 : Ex l mTr_readTools D R A (xQ D A Q) R.cells R.slots 42 [(2, Value.int (nI i)), (1, .int 0), (0, .ref a)] [] [sTr a tx d p f t (-1) nu 0 0, Cx, Cd, T] k n := by
      refine Ex.p rfl ?_
      refine Ex.br rfl (fun _ => ?_) (fun c => absurd rfl c)
      refine Ex.p rfl ?_
      refine Ex.zret rfl rfl (Or.inl rfl) hk hn rfl ?_
      subst hQ
      exact Or.inr ⟨rfl, _, _, _, _, _, rfl, hp, hd, hg⟩
    refine Ex.p rfl ?_
    refine Ex.p rfl ?_
    refine Ex.br rfl (fun _ => s42) (fun _ => ?_)
    refine Ex.p rfl ?_
    exact Ex.br rfl (fun _ => s42) (fun c => absurd rfl c)
  have loop : ∀ (m i p : Nat) (nu : Int32) (ts : List TV) (Cd T : va_W), 2000 - i < m → i ≤ p → p ≤ xs.length → IsDr D d ts [] Cd T [] → DrOK ts [] → (ts = [] → gt xs p ≠ 76) → (∀ r, Rn xs (1, true, f, t, ts.map tvo, [], -1) p r → G r) → ∀ lv9 : List (Nat × Value), (∀ q ∈ [(2, Value.int (nI i)), (1, .int 1), (0, .ref a)], q ∈ lv9) →
      Ex l mTr_readTools D R A (xQ D A Q) R.cells R.slots 4 lv9 [] [sTr a tx d p f t (-1) nu 0 0, Cx, Cd, T] (5 * ts.length) (28 * ts.length) := by
    intro m
    induction m with
    | zero => intro i p nu ts Cd T h; omega
    | succ m ih =>
      intro i p nu ts Cd T hm hip hp hd hok hts hGp lv9 hlv
      obtain ⟨ta, ha, ft, fh, eCd, -, -, -, -, h3, h4⟩ := id hd
      refine Ex.lv hlv ?_
      have s42 : gt xs p ≠ 84 → Ex l mTr_readTools D R A (xQ D A Q) R.cells R.slots 42 [(2, Value.int (nI i)), (1, .int 1), (0, .ref a)] [] [sTr a tx d p f t (-1) nu 0 0, Cx, Cd, T] (5 * ts.length) (28 * ts.length) := by
        intro hg
        refine Ex.p rfl ?_
        refine Ex.br rfl (fun c => absurd c (show (1 : Int32) ≠ 0 by decide)) (fun _ => ?_)
        refine Ex.p rfl ?_
        refine Ex.ldcS rfl ?_
        have hle := pLit_le (xs := xs) (cs := [37, 10]) (by decide) hp
        refine Ex.cv (Mc := mTr_passes) (Rc := rm 4 0 0) (As := [.ref (D.2.2.2.1 4)]) (rest := []) (Sr := [Cd, T]) (ic := 0) (jc := 0) (ci := 7) [0, 1] [2, 3] (ct_Tr_passes hx (by decide) hp (rm_ok _ _ _)) rfl lk_7_43 lcTr_passes rfl rfl rfl rfl rfl (by decide) rfl rfl rfl (by decide) ⟨by dsimp only [rm]; omega, by show 8 + (3 + 11) + 160 ≤ R.locals; omega⟩ (Nat.le_of_ble_eq_true rfl) (by dsimp only [rm]; omega) (by dsimp only [rm]; omega) ?_
        rintro w S1 ⟨rfl, rfl⟩
        rw [show txt 4 = [37, 10] from rfl]
        generalize hP : pLit xs [37, 10] p = P at hle
        obtain ⟨o, q⟩ := P
        refine Ex.sub (S' := [sTr a tx d q f t (-1) nu 0 0, Cx, Cd, T]) [2, 3, 0, 1] rfl rfl ?_
        cases o with
        | false =>
          refine Ex.br rfl (fun _ => ?_) (fun c => absurd rfl c)
          refine Ex.p rfl ?_
          refine Ex.zret rfl rfl (Or.inl rfl) (by dsimp only [rm]; omega) (by dsimp only [rm]; omega) rfl ?_
          subst hQ
          exact Or.inr ⟨rfl, _, _, _, _, _, rfl, hle.2, hd, hGp _ (Rn.pct_bad hP (fun e => hts (List.map_eq_nil_iff.mp e)) hg)⟩
        | true =>
          refine Ex.br rfl (fun c => absurd c (show (1 : Int32) ≠ 0 by decide)) (fun _ => ?_)
          refine Ex.p rfl ?_
          refine Ex.p rfl ?_
          refine Ex.zret rfl rfl (Or.inr rfl) (by dsimp only [rm]; omega) (by dsimp only [rm]; omega) rfl ?_
          subst hQ
          exact Or.inl ⟨rfl, _, _, _, _, _, rfl, hle.2, hd, hok, fun r hr => hGp r (Rn.pct_ok hP hr)⟩
      refine Ex.p rfl ?_
      refine Ex.p rfl ?_
      refine Ex.br rfl (fun c => ?_) (fun c => ?_)
      · have c := (i2000 (by omega)).mp c
        exact s42 (by rw [gt_end (by omega)]; decide)
      · have c : ¬ 2000 ≤ i := fun q => c ((i2000 (by omega)).mpr q)
        refine Ex.p rfl ?_
        refine Ex.br rfl (fun c => absurd c (show (1 : Int32) ≠ 0 by decide)) (fun _ => ?_)
        refine Ex.p rfl ?_
        refine Ex.gf 0 0 rfl rfl rfl ?_
        refine Ex.p rfl ?_
        refine Ex.gf 0 0 rfl rfl rfl ?_
        refine Ex.cv (Mc := mRo_get) (Rc := rm 0 0 0) (As := [.int (nI p)]) (rest := []) (Sr := [sTr a tx d p f t (-1) nu 0 0, Cd, T]) (ic := 1) (jc := 0) (ci := 5) [1] [0, 2, 3] (ct_Ro_get hx) rfl lk_7_50 lcRo_get rfl rfl rfl rfl rfl (by decide) rfl (by rw [eCx]; rfl) rfl (by decide) ⟨by dsimp only [rm]; omega, by show 8 + (2 + 11) + 0 ≤ R.locals; omega⟩ (Nat.le_of_ble_eq_true rfl) (by dsimp only [rm]; omega) (by dsimp only [rm]; omega) ?_
        rintro w S1 ⟨rfl, rfl⟩
        rw [rget_gt (by omega)]
        refine Ex.sub (S' := [sTr a tx d p f t (-1) nu 0 0, Cx, Cd, T]) [0, 3, 1, 2] rfl rfl ?_
        refine Ex.p rfl ?_
        refine Ex.br rfl (fun c => s42 c) (fun c => ?_)
        have c : gt xs p = 84 := Decidable.byContradiction c
        refine Ex.p rfl ?_
        refine Ex.cv (Mc := mTr_readToolLine) (Rc := rm 5 5 28) (As := []) (rest := []) (Sr := []) (ic := 0) (jc := 0) (ci := 7) [0, 1, 2, 3] [] (ct_Tr_readToolLine hx hd hp (rm_ok _ _ _)) rfl lk_7_54 lcTr_readToolLine rfl rfl rfl rfl rfl (by decide) rfl rfl rfl (by decide) ⟨by dsimp only [rm]; omega, by show 8 + (4 + 11) + 200 ≤ R.locals; omega⟩ (Nat.le_of_ble_eq_true rfl) (by dsimp only [rm]; omega) (by dsimp only [rm]; omega) ?_
        rintro w S1 ⟨rfl, nu', Cd', T', ts', rfl, hd', hs1, hs2⟩
        have hle := pToolLine_le (xs := xs) (n := ts.length) hp
        generalize hP : pToolLine xs ts.length p = P at hle hs1 hs2
        obtain ⟨o, q⟩ := P
        refine Ex.p rfl ?_
        refine Ex.p rfl ?_
        refine Ex.p rfl ?_
        rw [i_add1]
        have eP : pToolLine xs (ts.map tvo).length p = (o, q) := by rw [List.length_map]; exact hP
        cases o with
        | none => exact failed q nu' (i + 1) _ _ ts' Cd' T' _ (fun z h => by
            simp only [List.mem_cons, List.not_mem_nil, or_false] at h
            rcases h with rfl | rfl | rfl <;> first | (simp [xs1, lv_args, Value.category, b32, nI]; done) | (simp [xs1, lv_args, Value.category, b32, nI]; decide) | (simp [xs1, lv_args, Value.category, b32, nI]; exact Or.inr (by decide))) hle.1 hd' (hGp _ (Rn.tool_bad eP c)) (by dsimp only [rm]; omega) (by dsimp only [rm]; omega)
        | some x =>
          obtain ⟨k, rfl⟩ := hs1 _ rfl
          have hok' := pToolLine_ok hP
          have hlt : p < q := hle.2 (by simp)
          refine Ex.more (k' := 5 * (ts ++ [(k, x.1, x.2, [], [], 0, false, 8, 8)]).length) (n' := 28 * (ts ++ [(k, x.1, x.2, [], [], 0, false, 8, 8)]).length) ?_ ?_ (ih (i + 1) q nu' _ Cd' T' (by omega) (by omega) hle.1 hd' (hok.tool (fun h hh => by cases hh) (by omega) hok'.2) (fun e => by simp at e) (fun r hr => hGp r (Rn.tool_ok eP c (by rw [List.map_append] at hr; exact hr))) _ (fun z h => ?_))
          · rw [List.length_append, List.length_singleton]; dsimp only [rm]; omega
          · rw [List.length_append, List.length_singleton]; dsimp only [rm]; omega
          · simp only [List.mem_cons, List.not_mem_nil, or_false] at h
            rcases h with rfl | rfl | rfl <;> first | (simp [xs1, lv_args, Value.category, b32, nI]; done) | (simp [xs1, lv_args, Value.category, b32, nI]; decide) | (simp [xs1, lv_args, Value.category, b32, nI]; exact Or.inr (by decide))
  refine Ex.p rfl ?_
  refine Ex.p rfl ?_
  refine Ex.p rfl ?_
  refine Ex.p rfl ?_
  refine loop 2001 0 p0 nu [] Cd [] (by omega) (by omega) hp0 hd ⟨fun i t h => by simp at h, fun h hh => by cases hh⟩ (fun _ => h76) hG _ (fun z h => ?_)
  simp only [List.mem_cons, List.not_mem_nil, or_false] at h
  rcases h with rfl | rfl | rfl <;> first | (simp [xs1, lv_args, Value.category, b32, nI]; done) | (simp [xs1, lv_args, Value.category, b32, nI]; decide) | (simp [xs1, lv_args, Value.category, b32, nI]; exact Or.inr (by decide))
end R6
end
section
/-! TextReader: readHits -/
theorem tvo_tadd {t : TV} {x : Int32} : tvo (tadd t x) = tvo t := rfl
theorem map_set_tvo {ts : List TV} {i : Nat} {t u : TV} (h : ts[i]? = some t) (e : tvo u = tvo t) : (ts.set i u).map tvo = ts.map tvo := by
  apply List.ext_getElem?
  intro j
  rw [List.getElem?_map, List.getElem?_map]
  by_cases hij : i = j
  · subst hij
    rw [List.getElem?_set_self (List.getElem?_eq_some_iff.mp h).1, h]
    simp [e]
  · rw [List.getElem?_set_ne hij]
theorem DrOK.hitsLen {ts : List TV} {hs : List (Nat × HV)} {i : Nat} {t : TV} (h : DrOK ts hs) (hi : ts[i]? = some t) : t.2.2.2.1.length ≤ hs.length := by
  obtain ⟨k1, -⟩ := h.1 i t hi
  rw [k1, List.length_map]
  have := tnsA_len (nI i) (hs.map (fun h => h.2)) 0
  rw [List.length_map] at this
  exact this
section R7
variable {l : Launch} {D : xD} {R : Room}
theorem ct_Tr_readHits {a tx d p0 cp : Nat} {f t nu : Int32} {xs : List Int32} {ts0 : List TV} {Cx Cd T : va_W} {G : RR → Prop} (hx : IsRow D tx 2000 cp xs Cx) (hd : IsDr D d ts0 [] Cd T []) (hok : DrOK ts0 []) (hp0 : p0 ≤ xs.length) (hf : layOK f) (ht : layOK t) (hG : ∀ r, Rn xs (2, true, f, t, ts0.map tvo, [], -1) p0 r → G r) (hr : rmOk R 6 488 7747) : Ct l mTr_readHits D R [.ref a] [sTr a tx d p0 f t (-1) nu 0 0, Cx, Cd, T, []] (fun v S => (v = some (.int 1) ∧ ∃ p ch nu px py ts hs Cd T, S = [sTr a tx d p f t ch nu px py, Cx, Cd, T, sHs hs] ∧ p ≤ xs.length ∧ IsDr D d ts hs Cd T (sHs hs) ∧ DrOK ts hs ∧ HvT ts.length (hs.map (fun h => h.2)) ∧ ∀ r, Rn xs (3, true, f, t, ts.map tvo, hs.map (fun h => h.2), ch) p r → G r) ∨ (v = some (.int 0) ∧ ∃ p ch nu px py Cd T Hs, S = [sTr a tx d p f t ch nu px py, Cx, Cd, T, Hs] ∧ p ≤ xs.length ∧ G (.inl p))) := by
  obtain ⟨r1, r2, r3, r4⟩ := hr
  obtain ⟨arr, fx, eCx, x1, x2, x3, x4, x5, x6⟩ := id hx
  refine Ct.of rfl (by decide) tkTr_readHits (Nat.le_of_ble_eq_true rfl) (fun A => ?_)
  generalize hQ : (fun (v : Option Value) S => (v = some (.int 1) ∧ ∃ p ch nu px py ts hs Cd T, S = [sTr a tx d p f t ch nu px py, Cx, Cd, T, sHs hs] ∧ p ≤ xs.length ∧ IsDr D d ts hs Cd T (sHs hs) ∧ DrOK ts hs ∧ HvT ts.length (hs.map (fun h => h.2)) ∧ ∀ r, Rn xs (3, true, f, t, ts.map tvo, hs.map (fun h => h.2), ch) p r → G r) ∨ (v = some (.int 0) ∧ ∃ p ch nu px py Cd T Hs, S = [sTr a tx d p f t ch nu px py, Cx, Cd, T, Hs] ∧ p ≤ xs.length ∧ G (.inl p))) = Q
  have failed : ∀ (p : Nat) (ch nu px py : Int32) (i k n : Nat) (Cd T Hs : va_W) (lv9 : List (Nat × Value)), (∀ q ∈ [(2, Value.int (nI i)), (1, .int 0), (0, .ref a)], q ∈ lv9) → p ≤ xs.length → G (.inl p) → k ≤ R.cells → n ≤ R.slots → Ex l mTr_readHits D R A (xQ D A Q) R.cells R.slots 4 lv9 [] [sTr a tx d p f t ch nu px py, Cx, Cd, T, Hs] k n := by
    intro p ch nu px py i k n Cd T Hs lv9 hlv hp hg hk hn
    refine Ex.lv hlv ?_
    have s74 : Ex l mTr_readHits D R A (xQ D A Q) R.cells R.slots 74 [(2, Value.int (nI i)), (1, .int 0), (0, .ref a)] [] [sTr a tx d p f t ch nu px py, Cx, Cd, T, Hs] k n := by
      refine Ex.p rfl ?_
      refine Ex.br rfl (fun _ => ?_) (fun c => absurd rfl c)
      refine Ex.p rfl ?_
      refine Ex.zret rfl rfl (Or.inl rfl) hk hn rfl ?_
      subst hQ
      exact Or.inr ⟨rfl, _, _, _, _, _, _, _, _, rfl, hp, hg⟩
    refine Ex.p rfl ?_
    refine Ex.p rfl ?_
    refine Ex.br rfl (fun _ => s74) (fun _ => ?_)
    refine Ex.p rfl ?_
    exact Ex.br rfl (fun _ => s74) (fun c => absurd rfl c)
  have loop : ∀ (m i p : Nat) (ch nu px py : Int32) (ts : List TV) (hs : List (Nat × HV)) (Cd T : va_W), 2000 - i < m → i ≤ p → p ≤ xs.length → IsDr D d ts hs Cd T (sHs hs) → DrOK ts hs → HvT ts.length (hs.map (fun h => h.2)) → (ch ≠ -1 → 0 ≤ ch.toInt ∧ ch.toInt < ts.length) → (∀ r, Rn xs (2, true, f, t, ts.map tvo, hs.map (fun h => h.2), ch) p r → G r) → ∀ lv9 : List (Nat × Value), (∀ q ∈ [(2, Value.int (nI i)), (1, .int 1), (0, .ref a)], q ∈ lv9) →
      Ex l mTr_readHits D R A (xQ D A Q) R.cells R.slots 4 lv9 [] [sTr a tx d p f t ch nu px py, Cx, Cd, T, sHs hs] (8 * hs.length) (127 * hs.length) := by
    intro m
    induction m with
    | zero => intro i p ch nu px py ts hs Cd T h; omega
    | succ m ih =>
      intro i p ch nu px py ts hs Cd T hm hip hp hd hok hv hch hGp lv9 hlv
      obtain ⟨ta, ha, ft, fh, eCd, -, -, -, -, h3, h4⟩ := id hd
      refine Ex.lv hlv ?_
      have s74 : gt xs p = 77 ∨ gt xs p = -1 → Ex l mTr_readHits D R A (xQ D A Q) R.cells R.slots 74 [(2, Value.int (nI i)), (1, .int 1), (0, .ref a)] [] [sTr a tx d p f t ch nu px py, Cx, Cd, T, sHs hs] (8 * hs.length) (127 * hs.length) := by
        intro hg
        refine Ex.p rfl ?_
        refine Ex.br rfl (fun c => absurd c (show (1 : Int32) ≠ 0 by decide)) (fun _ => ?_)
        refine Ex.p rfl ?_
        refine Ex.ldcS rfl ?_
        have hle := pLit_le (xs := xs) (cs := [77, 51, 48, 10]) (by decide) hp
        refine Ex.cv (Mc := mTr_passes) (Rc := rm 4 0 0) (As := [.ref (D.2.2.2.1 6)]) (rest := []) (Sr := [Cd, T, sHs hs]) (ic := 0) (jc := 0) (ci := 7) [0, 1] [2, 3, 4] (ct_Tr_passes hx (by decide) hp (rm_ok _ _ _)) rfl lk_7_43 lcTr_passes rfl rfl rfl rfl rfl (by decide) rfl rfl rfl (by decide) ⟨by dsimp only [rm]; omega, by show 8 + (3 + 11) + 160 ≤ R.locals; omega⟩ (Nat.le_of_ble_eq_true rfl) (by dsimp only [rm]; omega) (by dsimp only [rm]; omega) ?_
        rintro w S1 ⟨rfl, rfl⟩
        rw [show txt 6 = [77, 51, 48, 10] from rfl]
        generalize hP : pLit xs [77, 51, 48, 10] p = P at hle
        obtain ⟨o, q⟩ := P
        refine Ex.sub (S' := [sTr a tx d q f t ch nu px py, Cx, Cd, T, sHs hs]) [3, 4, 0, 1, 2] rfl rfl ?_
        cases o with
        | false =>
          refine Ex.br rfl (fun _ => ?_) (fun c => absurd rfl c)
          refine Ex.p rfl ?_
          refine Ex.zret rfl rfl (Or.inl rfl) (by dsimp only [rm]; omega) (by dsimp only [rm]; omega) rfl ?_
          subst hQ
          exact Or.inr ⟨rfl, _, _, _, _, _, _, _, _, rfl, hle.2, hGp _ (Rn.m30_bad hP hg)⟩
        | true =>
          refine Ex.br rfl (fun c => absurd c (show (1 : Int32) ≠ 0 by decide)) (fun _ => ?_)
          refine Ex.p rfl ?_
          refine Ex.p rfl ?_
          refine Ex.zret rfl rfl (Or.inr rfl) (by dsimp only [rm]; omega) (by dsimp only [rm]; omega) rfl ?_
          subst hQ
          exact Or.inl ⟨rfl, _, _, _, _, _, ts, hs, _, _, rfl, hle.2, hd, hok, hv, fun r hr => hGp r (Rn.m30_ok hP hr)⟩
      refine Ex.p rfl ?_
      refine Ex.p rfl ?_
      refine Ex.br rfl (fun c => ?_) (fun c => ?_)
      · have c := (i2000 (by omega)).mp c
        exact s74 (Or.inr (gt_end (by omega)))
      · have ci : ¬ 2000 ≤ i := fun q => c ((i2000 (by omega)).mpr q)
        refine Ex.p rfl ?_
        refine Ex.br rfl (fun c => absurd c (show (1 : Int32) ≠ 0 by decide)) (fun _ => ?_)
        refine Ex.p rfl ?_
        refine Ex.gf 0 0 rfl rfl rfl ?_
        refine Ex.p rfl ?_
        refine Ex.gf 0 0 rfl rfl rfl ?_
        refine Ex.cv (Mc := mRo_get) (Rc := rm 0 0 0) (As := [.int (nI p)]) (rest := []) (Sr := [sTr a tx d p f t ch nu px py, Cd, T, sHs hs]) (ic := 1) (jc := 0) (ci := 5) [1] [0, 2, 3, 4] (ct_Ro_get hx) rfl lk_7_50 lcRo_get rfl rfl rfl rfl rfl (by decide) rfl (by rw [eCx]; rfl) rfl (by decide) ⟨by dsimp only [rm]; omega, by show 8 + (2 + 11) + 0 ≤ R.locals; omega⟩ (Nat.le_of_ble_eq_true rfl) (by dsimp only [rm]; omega) (by dsimp only [rm]; omega) ?_
        rintro w S1 ⟨rfl, rfl⟩
        rw [rget_gt (by omega)]
        refine Ex.sub (S' := [sTr a tx d p f t ch nu px py, Cx, Cd, T, sHs hs]) [0, 4, 1, 2, 3] rfl rfl ?_
        refine Ex.p rfl ?_
        refine Ex.br rfl (fun c => s74 (Or.inl c)) (fun c => ?_)
        have c77 : ¬ gt xs p = 77 := c
        have s63 : ¬ (gt xs p = 88 ∧ ch ≠ -1) → Ex l mTr_readHits D R A (xQ D A Q) R.cells R.slots 63 [(2, Value.int (nI i)), (1, .int 1), (0, .ref a)] [] [sTr a tx d p f t ch nu px py, Cx, Cd, T, sHs hs] (8 * hs.length) (127 * hs.length) := by
          intro hnh
          refine Ex.p rfl ?_
          refine Ex.cv (Mc := mTr_readChoiceLine) (Rc := rm 5 0 0) (As := []) (rest := []) (Sr := [T, sHs hs]) (ic := 0) (jc := 0) (ci := 7) [0, 1, 2] [3, 4] (ct_Tr_readChoiceLine hx hd hp (rm_ok _ _ _)) rfl lk_7_62 lcTr_readChoiceLine rfl rfl rfl rfl rfl (by decide) rfl rfl rfl (by decide) ⟨by dsimp only [rm]; omega, by show 8 + (2 + 11) + 200 ≤ R.locals; omega⟩ (Nat.le_of_ble_eq_true rfl) (by dsimp only [rm]; omega) (by dsimp only [rm]; omega) ?_
          rintro w S1 ⟨rfl, ch', nu', rfl, hc'⟩
          have hle := pChoice_le (xs := xs) (n := ts.length) hp
          generalize hP : pChoice xs ts.length p = P at hle hc'
          obtain ⟨o, q⟩ := P
          refine Ex.sub (S' := [sTr a tx d q f t ch' nu' px py, Cx, Cd, T, sHs hs]) [2, 3, 4, 0, 1] rfl rfl ?_
          refine Ex.p rfl ?_
          refine Ex.p rfl ?_
          refine Ex.p rfl ?_
          rw [i_add1]
          have eP : pChoice xs (ts.map tvo).length p = (o, q) := by rw [List.length_map]; exact hP
          cases o with
          | none => exact failed q ch' nu' px py (i + 1) _ _ Cd T (sHs hs) _ (fun z h => by
              simp only [List.mem_cons, List.not_mem_nil, or_false] at h
              rcases h with rfl | rfl | rfl <;> first | (simp [xs1, lv_args, Value.category, b32, nI]; done) | (simp [xs1, lv_args, Value.category, b32, nI]; decide) | (simp [xs1, lv_args, Value.category, b32, nI]; exact Or.inr (by decide))) hle.1 (hGp _ (Rn.cho_bad eP c77 hnh)) (by dsimp only [rm]; omega) (by dsimp only [rm]; omega)
          | some x =>
            have e9 := hc' _ rfl
            subst e9
            have hok' := pChoice_ok hP
            have hlt : p < q := hle.2 (by simp)
            refine Ex.more (k' := 8 * hs.length) (n' := 127 * hs.length) (by dsimp only [rm]; omega) (by dsimp only [rm]; omega) (ih (i + 1) q ch' nu' px py ts hs Cd T (by omega) (by omega) hle.1 hd hok hv (fun _ => hok'.2) (fun r hr => hGp r (Rn.cho_ok eP hr)) _ (fun z h => ?_))
            simp only [List.mem_cons, List.not_mem_nil, or_false] at h
            rcases h with rfl | rfl | rfl <;> first | (simp [xs1, lv_args, Value.category, b32, nI]; done) | (simp [xs1, lv_args, Value.category, b32, nI]; decide) | (simp [xs1, lv_args, Value.category, b32, nI]; exact Or.inr (by decide))
        refine Ex.p rfl ?_
        refine Ex.gf 0 0 rfl rfl rfl ?_
        refine Ex.p rfl ?_
        refine Ex.gf 0 0 rfl rfl rfl ?_
        refine Ex.cv (Mc := mRo_get) (Rc := rm 0 0 0) (As := [.int (nI p)]) (rest := []) (Sr := [sTr a tx d p f t ch nu px py, Cd, T, sHs hs]) (ic := 1) (jc := 0) (ci := 5) [1] [0, 2, 3, 4] (ct_Ro_get hx) rfl lk_7_50 lcRo_get rfl rfl rfl rfl rfl (by decide) rfl (by rw [eCx]; rfl) rfl (by decide) ⟨by dsimp only [rm]; omega, by show 8 + (2 + 11) + 0 ≤ R.locals; omega⟩ (Nat.le_of_ble_eq_true rfl) (by dsimp only [rm]; omega) (by dsimp only [rm]; omega) ?_
        rintro w S1 ⟨rfl, rfl⟩
        rw [rget_gt (by omega)]
        refine Ex.sub (S' := [sTr a tx d p f t ch nu px py, Cx, Cd, T, sHs hs]) [0, 4, 1, 2, 3] rfl rfl ?_
        refine Ex.p rfl ?_
        refine Ex.br rfl (fun c => s63 (fun q => absurd q.1 c)) (fun c => ?_)
        have c88 : gt xs p = 88 := Decidable.byContradiction c
        refine Ex.p rfl ?_
        refine Ex.gf 0 0 rfl rfl rfl ?_
        refine Ex.p rfl ?_
        refine Ex.br rfl (fun c => s63 (fun q => absurd c q.2)) (fun c => ?_)
        have cch : ¬ ch = -1 := c
        obtain ⟨hc0, hc1⟩ := hch cch
        have hcl : ch.toInt.toNat < ts.length := by omega
        have ht0 : ts[ch.toInt.toNat]? = some ts[ch.toInt.toNat] := List.getElem?_eq_getElem hcl
        generalize ts[ch.toInt.toNat] = t0 at ht0
        have ech : ch = nI ch.toInt.toNat := by
          apply Int32.toInt_inj.mp
          rw [nI_toInt (by omega)]
          omega
        refine Ex.p rfl ?_
        refine Ex.cv (Mc := mTr_readHitLine) (Rc := rm 5 8 127) (As := []) (rest := []) (Sr := []) (ic := 0) (jc := 0) (ci := 7) [0, 1, 2, 3, 4] [] (ct_Tr_readHitLine (c := ch.toInt.toNat) hx hd hp (by omega) ht0 (fun h9 => by have := hok.hitsLen ht0; omega) (rm_ok _ _ _)) rfl lk_7_59 lcTr_readHitLine rfl rfl rfl rfl rfl (by decide) rfl rfl rfl (by decide) ⟨by dsimp only [rm]; omega, by show 8 + (9 + 11) + 200 ≤ R.locals; omega⟩ (Nat.le_of_ble_eq_true rfl) (by dsimp only [rm]; omega) (by dsimp only [rm]; omega) ?_
        rintro w S1 ⟨rfl, nu', px', py', Cd', T', ts', hs', rfl, hd', hs1, hs2⟩
        have hle := pHitLine_le (xs := xs) (nh := hs.length) (ch := ch) (f := f) (t := t) hp
        generalize hP : pHitLine xs hs.length ch f t p = P at hle hs1 hs2
        obtain ⟨o, q⟩ := P
        refine Ex.p rfl ?_
        refine Ex.p rfl ?_
        refine Ex.p rfl ?_
        refine Ex.p rfl ?_
        rw [i_add1]
        have eP : pHitLine xs (hs.map (fun h => h.2)).length ch f t p = (o, q) := by rw [List.length_map]; exact hP
        cases o with
        | none => exact failed q ch nu' px' py' (i + 1) _ _ Cd' T' (sHs hs') _ (fun z h => by
            simp only [List.mem_cons, List.not_mem_nil, or_false] at h
            rcases h with rfl | rfl | rfl <;> first | (simp [xs1, lv_args, Value.category, b32, nI]; done) | (simp [xs1, lv_args, Value.category, b32, nI]; decide) | (simp [xs1, lv_args, Value.category, b32, nI]; exact Or.inr (by decide))) hle.1 (hGp _ (Rn.hit_bad eP c88 cch)) (by dsimp only [rm]; omega) (by dsimp only [rm]; omega)
        | some x =>
          obtain ⟨k, rfl, rfl⟩ := hs1 _ rfl
          have hok' := pHitLine_ok hf ht hP
          have hlt : p < q := hle.2 (by simp)
          have em : (hs ++ [(k, x)]).map (fun h => h.2) = hs.map (fun h => h.2) ++ [x] := by simp
          refine Ex.more (k' := 8 * (hs ++ [(k, x)]).length) (n' := 127 * (hs ++ [(k, x)]).length) ?_ ?_ (ih (i + 1) q ch nu' px' py' _ _ Cd' T' (by omega) (by omega) hle.1 hd' (hok.hit ht0 (by rw [hok'.2.1]; exact ech) hok'.2.2 (by omega) hok'.1) ?_ ?_ (fun r hr => hGp r (Rn.hit_ok eP c88 cch ?_)) _ (fun z h => ?_))
          · rw [List.length_append, List.length_singleton]; dsimp only [rm]; omega
          · rw [List.length_append, List.length_singleton]; dsimp only [rm]; omega
          · rw [em, List.length_set]
            exact hv.add hcl (by rw [hok'.2.1]; exact ech)
          · rw [List.length_set]
            exact hch
          · rw [em, map_set_tvo ht0 tvo_tadd] at hr
            exact hr
          · simp only [List.mem_cons, List.not_mem_nil, or_false] at h
            rcases h with rfl | rfl | rfl <;> first | (simp [xs1, lv_args, Value.category, b32, nI]; done) | (simp [xs1, lv_args, Value.category, b32, nI]; decide) | (simp [xs1, lv_args, Value.category, b32, nI]; exact Or.inr (by decide))
  refine Ex.p rfl ?_
  refine Ex.p rfl ?_
  refine Ex.p rfl ?_
  refine Ex.p rfl ?_
  refine loop 2001 0 p0 (-1) nu 0 0 ts0 [] Cd T (by omega) (by omega) hp0 hd hok (fun h hh => by cases hh) (fun c => absurd rfl c) hG _ (fun z h => ?_)
  simp only [List.mem_cons, List.not_mem_nil, or_false] at h
  rcases h with rfl | rfl | rfl <;> first | (simp [xs1, lv_args, Value.category, b32, nI]; done) | (simp [xs1, lv_args, Value.category, b32, nI]; decide) | (simp [xs1, lv_args, Value.category, b32, nI]; exact Or.inr (by decide))
theorem ct_Tr_firstWrong {a tx d cp : Nat} {xs : List Int32} {Cx Cd : va_W} (hx : IsRow D tx 2000 cp xs Cx) (hd : IsDr D d [] [] Cd [] []) (hr : rmOk R 7 543 8055) : Ct l mTr_firstWrong D R [.ref a] [sTr a tx d 0 0 0 (-1) 0 0 0, Cx, Cd, [], []] (fun v S => (v = some (.int (-1)) ∧ ∃ C0 ts hs Cd T, S = [C0, Cx, Cd, T, sHs hs] ∧ IsDr D d ts hs Cd T (sHs hs) ∧ DrOK ts hs ∧ HvT ts.length (hs.map (fun h => h.2)) ∧ Rn xs rs0 0 (.inr (ts.map tvo, hs.map (fun h => h.2)))) ∨ (∃ p C0 C1 C2 C3, v = some (.int (nI p)) ∧ S = [C0, Cx, C1, C2, C3] ∧ p ≤ xs.length ∧ Rn xs rs0 0 (.inl p))) := by
  obtain ⟨r1, r2, r3, r4⟩ := hr
  obtain ⟨arr, fx, eCx, x1, x2, x3, x4, x5, x6⟩ := id hx
  refine Ct.of rfl (by decide) tkTr_firstWrong (Nat.le_of_ble_eq_true rfl) (fun A => ?_)
  generalize hQ : (fun (v : Option Value) S => (v = some (.int (-1)) ∧ ∃ C0 ts hs Cd T, S = [C0, Cx, Cd, T, sHs hs] ∧ IsDr D d ts hs Cd T (sHs hs) ∧ DrOK ts hs ∧ HvT ts.length (hs.map (fun h => h.2)) ∧ Rn xs rs0 0 (.inr (ts.map tvo, hs.map (fun h => h.2)))) ∨ (∃ p C0 C1 C2 C3, v = some (.int (nI p)) ∧ S = [C0, Cx, C1, C2, C3] ∧ p ≤ xs.length ∧ Rn xs rs0 0 (.inl p))) = Q
  have failed : ∀ (p : Nat) (f t ch nu px py : Int32) (Cd T Hs : va_W) (k n : Nat), p ≤ xs.length → Rn xs rs0 0 (.inl p) → k ≤ R.cells → n ≤ R.slots → Ex l mTr_firstWrong D R A (xQ D A Q) R.cells R.slots 39 [(0, .ref a)] [] [sTr a tx d p f t ch nu px py, Cx, Cd, T, Hs] k n := by
    intro p f t ch nu px py Cd T Hs k n hp hg hk hn
    refine Ex.p rfl ?_
    refine Ex.p rfl ?_
    refine Ex.p rfl ?_
    refine Ex.br rfl (fun _ => ?_) (fun c => absurd rfl c)
    refine Ex.p rfl ?_
    refine Ex.gf 0 0 rfl rfl rfl ?_
    refine Ex.iret rfl rfl hk hn rfl ?_
    subst hQ
    exact Or.inr ⟨p, _, _, _, _, rfl, rfl, hp, hg⟩
  refine Ex.p rfl ?_
  refine Ex.cv (Mc := mTr_readLayers) (Rc := rm 6 0 0) (As := []) (rest := []) (Sr := [Cd, [], []]) (ic := 0) (jc := 0) (ci := 7) [0, 1] [2, 3, 4] (ct_Tr_readLayers (G := fun r => Rn xs rs0 0 r) hx (fun _ h => h) (rm_ok _ _ _)) rfl lk_7_23 lcTr_readLayers rfl rfl rfl rfl rfl (by decide) rfl rfl rfl (by decide) ⟨by dsimp only [rm]; omega, by show 8 + (3 + 11) + 240 ≤ R.locals; omega⟩ (Nat.le_of_ble_eq_true rfl) (by dsimp only [rm]; omega) (by dsimp only [rm]; omega) ?_
  rintro w S1 h9
  rcases h9 with ⟨rfl, p, f, t, nu, rfl, hp, h76, hf, ht, hG⟩ | ⟨rfl, p, f, t, nu, rfl, hp, hg⟩
  · refine Ex.sub (S' := [sTr a tx d p f t (-1) nu 0 0, Cx, Cd, [], []]) [3, 4, 0, 1, 2] rfl rfl ?_
    refine Ex.br rfl (fun c => absurd c (show (1 : Int32) ≠ 0 by decide)) (fun _ => ?_)
    refine Ex.p rfl ?_
    refine Ex.cv (Mc := mTr_readTools) (Rc := rm 6 55 308) (As := []) (rest := []) (Sr := [[]]) (ic := 0) (jc := 0) (ci := 7) [0, 1, 2, 3] [4] (ct_Tr_readTools hx hd hp h76 hG (rm_ok _ _ _)) rfl lk_7_27 lcTr_readTools rfl rfl rfl rfl rfl (by decide) rfl rfl rfl (by decide) ⟨by dsimp only [rm]; omega, by show 8 + (3 + 11) + 240 ≤ R.locals; omega⟩ (Nat.le_of_ble_eq_true rfl) (by dsimp only [rm]; omega) (by dsimp only [rm]; omega) ?_
    rintro w S1 h9
    rcases h9 with ⟨rfl, p, nu, ts, Cd, T, rfl, hp, hd, hok, hG⟩ | ⟨rfl, p, nu, ts, Cd, T, rfl, hp, -, hg⟩
    · refine Ex.sub (S' := [sTr a tx d p f t (-1) nu 0 0, Cx, Cd, T, []]) [1, 2, 3, 4, 0] rfl rfl ?_
      refine Ex.br rfl (fun c => absurd c (show (1 : Int32) ≠ 0 by decide)) (fun _ => ?_)
      refine Ex.p rfl ?_
      refine Ex.cv (Mc := mTr_readHits) (Rc := rm 6 488 7747) (As := []) (rest := []) (Sr := []) (ic := 0) (jc := 0) (ci := 7) [0, 1, 2, 3, 4] [] (ct_Tr_readHits hx hd hok hp hf ht hG (rm_ok _ _ _)) rfl lk_7_30 lcTr_readHits rfl rfl rfl rfl rfl (by decide) rfl rfl rfl (by decide) ⟨by dsimp only [rm]; omega, by show 8 + (3 + 11) + 240 ≤ R.locals; omega⟩ (Nat.le_of_ble_eq_true rfl) (by dsimp only [rm]; omega) (by dsimp only [rm]; omega) ?_
      rintro w S1 h9
      rcases h9 with ⟨rfl, p, ch, nu, px, py, ts, hs, Cd, T, rfl, hp, hd, hok, hv, hG⟩ | ⟨rfl, p, ch, nu, px, py, Cd, T, Hs, rfl, hp, hg⟩
      · refine Ex.br rfl (fun c => absurd c (show (1 : Int32) ≠ 0 by decide)) (fun _ => ?_)
        refine Ex.p rfl ?_
        refine Ex.gf 0 0 rfl rfl rfl ?_
        refine Ex.p rfl ?_
        refine Ex.gf 0 0 rfl rfl rfl ?_
        refine Ex.gf 1 0 rfl (by rw [eCx]; rfl) rfl ?_
        refine Ex.br rfl (fun c => ?_) (fun c => ?_)
        · have hne : p ≠ xs.length := fun e => c (by rw [e])
          exact failed p f t ch nu px py Cd T _ _ _ hp (hG _ (Rn.trail rfl hne)) (by dsimp only [rm]; omega) (by dsimp only [rm]; omega)
        · have he : nI p = nI xs.length := Decidable.byContradiction c
          rw [nI_eq (by omega) (by omega)] at he
          subst he
          refine Ex.p rfl ?_
          refine Ex.p rfl ?_
          refine Ex.p rfl ?_
          refine Ex.p rfl ?_
          refine Ex.br rfl (fun c => absurd c (show (1 : Int32) ≠ 0 by decide)) (fun _ => ?_)
          refine Ex.p rfl ?_
          refine Ex.p rfl ?_
          refine Ex.iret rfl rfl (by dsimp only [rm]; omega) (by dsimp only [rm]; omega) rfl ?_
          subst hQ
          exact Or.inl ⟨rfl, _, ts, hs, _, _, rfl, hd, hok, hv, hG _ (Rn.fin rfl)⟩
      · refine Ex.br rfl (fun _ => ?_) (fun c => absurd rfl c)
        exact failed p f t ch nu px py Cd T Hs _ _ hp hg (by dsimp only [rm]; omega) (by dsimp only [rm]; omega)
    · refine Ex.sub (S' := [sTr a tx d p f t (-1) nu 0 0, Cx, Cd, T, []]) [1, 2, 3, 4, 0] rfl rfl ?_
      refine Ex.br rfl (fun _ => ?_) (fun c => absurd rfl c)
      exact failed p f t _ nu _ _ Cd T _ _ _ hp hg (by dsimp only [rm]; omega) (by dsimp only [rm]; omega)
  · refine Ex.sub (S' := [sTr a tx d p f t (-1) nu 0 0, Cx, Cd, [], []]) [3, 4, 0, 1, 2] rfl rfl ?_
    refine Ex.br rfl (fun _ => ?_) (fun c => absurd rfl c)
    exact failed p f t _ nu _ _ Cd _ _ _ _ hp hg (by dsimp only [rm]; omega) (by dsimp only [rm]; omega)
end R7
end
section
/-! OWN FRAME 10: throws -/
abbrev xH : Type := List (Nat × Nat × Nat × Nat)
/-- a method's code word, with handlers or without -/
def xcw (M : xM) (hh : Option xH) : Cond := match hh with
  | none => .code M.2.1 M.2.2.1 M.2.2.2.1 M.2.2.2.2.1
  | some h => .codeWith M.2.1 M.2.2.1 M.2.2.2.1 M.2.2.2.2.1 h
theorem xcw_spec {M : xM} {hh : Option xH} {args : Array Value} {s : State} {m : MethodId} (hn : s.methodNamed? M.2.1 = some m) (h : (xcw M hh).before args s = true) :
    ∃ meth c, s.vm.method? m = some meth ∧ meth.code = some c ∧ c.code = M.2.2.1 ∧ c.maxLocals = M.2.2.2.1 ∧ meth.sig.returnType = M.2.2.2.2.1 ∧ meth.locks = false ∧ c.exceptionTable.toList.map (fun h => (h.startPc, h.endPc, h.handlerPc, h.catchType)) = hh.getD [] ∧ parseMethodDescriptor M.2.1.desc = some meth.sig := by
  cases hh with
  | none =>
    obtain ⟨meth, c, h1, h2, h3, h4, h5, h6, h7, h8⟩ := Cond.code_spec hn h
    refine ⟨meth, c, h1, h2, h3, h4, h5, h6, ?_, h8⟩
    have : c.exceptionTable = #[] := by simpa using h7
    rw [this]
    rfl
  | some hs =>
    obtain ⟨m9, meth, c, hn9, h1, h2, h3, h4, h7, h5, h6, h8⟩ := Cond.codeWith_spec h
    cases hn.symm.trans hn9
    exact ⟨meth, c, h1, h2, h3, h4, h5, h6, h7, h8⟩
/-- a method's end: an answer, or a throw of class cc; what is left -/
def xQT (D : xD) (A : Nat → Prop) (Q : Option Value → List va_W → Prop) (E : Nat → List va_W → Prop) : Array Value → State → Outcome → State → Prop := fun _ st o t =>
  ((∃ (v : Option Value) (S : List va_W), o = .returned v ∧ Q v S ∧ va_P (xG D) gCL S.flatten t.heap ∧ va_D A S.flatten) ∨
   (∃ (x cc : Nat) (S : List va_W) (cell : Cell), o = .threw x ∧ E cc S ∧ va_P (xG D) gCL S.flatten t.heap ∧ va_D A S.flatten ∧ t.heap[x]? = some cell ∧ cell.vm = .none ∧ cell.cls = D.1 cc)) ∧ va_F A st t
theorem xQ.t {D : xD} {A : Nat → Prop} {Q : Option Value → List va_W → Prop} {E : Nat → List va_W → Prop} {a : Array Value} {st t : State} {o : Outcome} (h : xQ D A Q a st o t) : xQT D A Q E a st o t := ⟨Or.inl h.1, h.2⟩
/-- A CONTRACT that may throw -/
def CtT (l : Launch) (M : xM) (hh : Option xH) (D : xD) (R : Room) (av : List Value) (S : List va_W) (Q : Option Value → List va_W → Prop) (E : Nat → List va_W → Prop) : Prop :=
  ∀ sz : Nat, MetFree l M.2.1 (headSpec (xcw M hh :: gTB) R) (xP D av S sz) (fun _ _ _ _ _ => True) (fun a st o t => xQT D (va_A S.flatten sz) Q E a st o t ∧ st.WarmedH t.vm ∧ ∃ L, st.sameButNew ({ t with vm := st.vm } : State) L R.cells R.slots ∧ ∀ q ∈ L, va_A S.flatten sz q.base)
theorem CtT.of {l : Launch} {M : xM} {hh : Option xH} {D : xD} {R : Room} {av : List Value} {S : List va_W} {Q : Option Value → List va_W → Prop} {E : Nat → List va_W → Prop} (ho : gON[M.1]? = some M.2.1.cls) (hy : plainName M.2.1.cls = true) (htb : ∀ q ∈ M.2.2.2.2.2, decode M.2.2.1 q.1 = .ok (q.2, xlen q.2)) (hn : (lg_sl av).length ≤ M.2.2.2.1)
    (h : ∀ A : Nat → Prop, Ex l M D R A (xQT D A Q E) R.cells R.slots 0 (lv_args 0 av) [] S 0 0) : CtT l M hh D R av S Q E := by
  intro sz
  refine MetFree.of_bodyS (code := M.2.2.1) (maxLocals := M.2.2.2.1) (ret := M.2.2.2.2.1) hy ?_ ?_
  · intro args s m hp hn9
    obtain ⟨meth, c, h1, h2, h3, h4, h5, h6, -, -⟩ := xcw_spec hn9 (atoms_spec (ws := xcw M hh :: gTB) hp _ List.mem_cons_self)
    exact ⟨meth, c, h1, h2, h3, h4, h5, h6⟩
  · intro p e s m args below meth c s₁ B hml hv _
    have hh0 : s₁.heap = s.heap := by rw [B.state]; rfl
    obtain ⟨rfl, hsz, hP, hK, hD, hN, hX⟩ := hv
    subst hsz
    have hts : ∀ w ∈ xcw M hh :: gTB, w.before _ s = true := atoms_spec (ws := xcw M hh :: gTB) B.pre
    have hown : s.vm.findClass M.2.1.cls = some m.cls := findClass_of_methodNamed B.named
    rw [lg_entry_eq]
    have hw := h (va_A S.flatten s.heap.size) p e s m av.toArray below meth c s.heap [] _ ⟨ho, B.exec, B.bytes, hml, B.returns, hown, fun w hw => hts w (List.mem_cons_of_mem _ hw), B.notSynchronized, ⟨(name_of_methodNamed B.named B.method).1, B.named, va_A.plain hP⟩, hK, hN, hX, fun q hq => Or.inr hq, htb⟩
      va_S.rf hP (hD.self (sz := s.heap.size)) (lv_entry av hn)
    obtain ⟨t, h1, o, h2, h3, h4, h5, L, h6, h7⟩ := hw s₁ hh0 (Stand.of_body B)
    exact ⟨t, o, h1, h2, h3, h4, h5, L, h6, h7⟩
theorem CtT.imp {l : Launch} {M : xM} {hh : Option xH} {D : xD} {R : Room} {av : List Value} {S : List va_W} {Q Q' : Option Value → List va_W → Prop} {E E' : Nat → List va_W → Prop} (h : CtT l M hh D R av S Q E) (hq : ∀ v S, Q v S → Q' v S) (he : ∀ cc S, E cc S → E' cc S) : CtT l M hh D R av S Q' E' := by
  intro sz p e ha hc hk s m args below hf happ hP hK
  obtain ⟨n, o, h1, h2, h3, ⟨h4, h5⟩, h6⟩ := h sz p e ha hc hk s m args below hf happ hP hK
  refine ⟨n, o, h1, h2, h3, ⟨?_, h5⟩, h6⟩
  rcases h4 with ⟨v, S', a1, a2, a3⟩ | ⟨x, cc, S', cell, a1, a2, a3⟩
  · exact Or.inl ⟨v, S', a1, hq _ _ a2, a3⟩
  · exact Or.inr ⟨x, cc, S', cell, a1, he _ _ a2, a3⟩
section XT
variable {l : Launch} {M : xM} {D : xD} {R : Room} {A : Nat → Prop} {mc ms pc k n : Nat} {lv : List (Nat × Value)} {st : List Value} {S : List va_W}
theorem Ex.mono {Q Q' : Array Value → State → Outcome → State → Prop} (hq : ∀ a s o t, Q a s o t → Q' a s o t) (h : Ex l M D R A Q mc ms pc lv st S k n) : Ex l M D R A Q' mc ms pc lv st S k n := by
  intro p e s m args below meth c H locs ls F hS hP hD hl T hT X
  obtain ⟨t, h1, o, h2, h3, h4, h5⟩ := h p e s m args below meth c H locs ls F hS hP hD hl T hT X
  exact ⟨t, h1, o, h2, h3, hq _ _ _ _ h4, h5⟩
/-- an answer -/
theorem Ex.rt {Q : Option Value → List va_W → Prop} {E : Nat → List va_W → Prop} (h : Ex l M D R A (xQ D A Q) mc ms pc lv st S k n) : Ex l M D R A (xQT D A Q E) mc ms pc lv st S k n := Ex.mono (fun _ _ _ _ h => h.t) h
end XT
theorem va_Z.val {C n d : String} {v : Value} {A : Nat → Prop} {s : State} {args : Array Value} (h : va_Z C n d v A s s.heap) : (Term.static C n d).eval args s none [] s = some v := by
  obtain ⟨cf, kf, fi, f, a, cell, h1, h2, h3, h4, h5, h6, h7, -⟩ := h
  simp [Term.eval, State.fieldNamed?, h1, h2, h4, h5, h6, h7]
theorem va_Zq.isRef {C n d : String} {A : Nat → Prop} {s : State} {args : Array Value} (h : va_Zq C n d A s s.heap) : (Cond.isRef (.static C n d)).before args s = true := by
  rcases h with h | ⟨t, h⟩
  · have := h.val (args := args)
    simp [Cond.before, Cond.holds, Cond.value, this, Value.isRef]
  · have := h.val (args := args)
    simp [Cond.before, Cond.holds, Cond.value, this, Value.isRef]
end
section
/-! a made exception, thrown out of its method: the rest of the heap stays -/
section XTH
variable {p : Program} {l : Launch} {e : Env} {R : Room} {s : State} {m : MethodId} {args : Array Value} {below : List Frame} {meth : Method} {c : Code} {W0 : State} {locs : List Loc} {cells slots : Nat}
set_option maxHeartbeats 1000000 in
theorem x_throw (X : Stand p l e R s m args below meth c W0 locs cells slots) (hexec : p.tables.exec = Jvm.exec) (htr : e.platform.stackTraces = false) {own cls : String} {names : List String} {ic : Nat}
    (hown : s.vm.findClass own = some m.cls) (hcls : Bundle.fit cls = true) (hnames : ∀ n ∈ names, Bundle.fit n = true) (h : ∀ w ∈ Bundle.ownAtoms own ic cls names, w.before args s = true)
    (hlocs : ∀ x ∈ locs, ∀ cell : Cell, s.heap[x.base]? = some cell → cell.vm.isStatics = false)
    {a msg : Nat} {cX : ClassId} {kX : Class} (hfX : s.vm.findClass cls = some cX) (hkX : s.vm.classes[cX]? = some kX) (hcell : W0.heap[a]? = some (freshCell cX kX)) (hnew : s.heap.size ≤ a)
    {pc : Nat} {ls : Array Slot} {rest : List Value} (hsize : ls.size = c.maxLocals) (hd6 : decode c.code pc = .ok (.invokespecial ic, 3)) (hd9 : decode c.code (pc + 3) = .ok (.athrow, 1)) (hout : c.exceptionTable.toList = [])
    (hRf : names.length + 3 < R.frames) (hRl : (rest.map fun v => v.category).sum + (13 * (names.length + 1) + 43) ≤ R.locals) (hlocks : meth.locks = false) :
    ∃ (U : State) (ce : Cell), Steps p.tables e below (W0.setTop (F0 m pc ls (.ref msg :: .ref a :: .ref a :: rest))) U ∧ U.status = .running ∧ Ended U below (.threw a) ∧ s.WarmedH U.vm ∧ s.sameButNew ({ U with vm := s.vm } : State) locs cells slots ∧ U.heap = W0.heap.setIfInBounds a ce ∧ ce.cls = cX ∧ ce.vm = .none := by
  have hpf := X.admits.platform
  have hpl : e.platform.magicAccessors = ({} : Platform).magicAccessors := by rw [hpf]
  have on : ∀ w, w ∈ Bundle.ownAtoms own ic cls names → w.holds args s none s [] = true := fun w hw => h w hw
  obtain ⟨T, Z0, L, -, Y⟩ := ThrowableC.of_atoms (args := args) (pl := e.platform) (by rw [hpf]) (by rw [hpf]) hpl (fun w hw => h w (by simp [Bundle.ownAtoms, hw]))
  obtain ⟨Z, Mg, LZ, LM, hZ⟩ := Init0T.ofS_atoms (args := args) hpl L Y (fun w hw => h w (by simp [Bundle.ownAtoms, hw]))
  obtain ⟨P1, Ps, hlen, L1, hLs, hP1, hk1, hks⟩ := Bundle.chainS (args := args) hpl hZ names cls hcls hnames (fun w hw => h w (by simp [Bundle.ownAtoms, hw]))
  cases hfX.symm.trans (findClass_of_methodNamed hP1)
  obtain ⟨c1, k1, hc1, hk, hord, -, -, -⟩ := Cond.instantiable_spec (on (.instantiable cls 6) (by simp [Bundle.ownAtoms]))
  cases hc1.symm.trans hfX
  cases hkX.symm.trans hk
  have sel : ∀ {y : MethodName} {mm : MethodId}, s.methodNamed? y = some mm → (y.cls ≠ "java/lang/invoke/MethodHandle" ∧ y.cls ≠ "java/lang/invoke/VarHandle") → (Cond.selects cls y y) ∈ Bundle.ownAtoms own ic cls names → selectMethod e.platform s.vm P1.m.cls mm = .method mm := by
    intro y mm hy hn hin
    obtain ⟨c2, r2, m2, q1, q2, q3, q4, -⟩ := Cond.selects_spec (on _ hin)
    cases q1.symm.trans hfX
    cases q2.symm.trans (State.methodFound?_of_named hy hn)
    cases q3.symm.trans hy
    rw [Launch.admits_selectMethod X.admits]
    exact q4
  obtain ⟨cS0, hS0, hSs⟩ := Y.statics
  obtain ⟨u0, hu0⟩ := Cond.staticRefV Y.unassigned L.unassignedStatic L.statics hS0 hSs (on (.isRef (.static Bundle.tN "UNASSIGNED_STACK" Bundle.steD)) (by simp [Bundle.ownAtoms]))
  obtain ⟨sen, hsen⟩ := Cond.staticRefV Y.sentinel L.sentinelStatic L.statics hS0 hSs (on (.isRef (.static Bundle.tN "SUPPRESSED_SENTINEL" Bundle.listD)) (by simp [Bundle.ownAtoms]))
  obtain ⟨ci9, i9, fB, b1, b2, b3, b4, -, bn, bt, bf⟩ := Cond.ownField (t := .object "java/lang/Object") Y.found L.cls (by decide +kernel) (on (.fieldLink Bundle.tN 198 Bundle.tN "backtrace" "Ljava/lang/Object;") (by simp [Bundle.ownAtoms])) (on (.lays Bundle.tN Bundle.tN "backtrace" "Ljava/lang/Object;") (by simp [Bundle.ownAtoms])) e.platform hpl
  obtain ⟨cS, hS1, hS2, -, hkeep⟩ := X.same.2.2.2.2.2 T.aS cS0 hS0
  have hS1 : W0.heap[T.aS]? = some cS := hS1
  have off : ∀ i, (⟨T.aS, i⟩ : Loc) ∉ locs := fun i hi => by
    have := hlocs _ hi cS0 hS0
    rw [hSs] at this
    cases this
  have hSu : cS.vm ≠ .unknown := by
    rw [hS2]
    intro hu
    rw [show cS0.vm = .unknown from hu] at hSs
    cases hSs
  have hneS : T.aS ≠ a := Nat.ne_of_lt (Nat.lt_of_lt_of_le (Array.getElem?_eq_some_iff.mp hS0).1 hnew)
  obtain ⟨iM, hfM⟩ := Y.msg
  obtain ⟨tyC, dC, gC, nC⟩ := Cond.laysAt hfX hk Y.cause (on (.lays cls Bundle.tN "cause" "Ljava/lang/Throwable;") (by simp [Bundle.ownAtoms]))
  obtain ⟨tyS, dS, gS, nS⟩ := Cond.laysAt hfX hk Y.stack (on (.lays cls Bundle.tN "stackTrace" Bundle.steD) (by simp [Bundle.ownAtoms]))
  obtain ⟨tyP, dP, gP, nP⟩ := Cond.laysAt hfX hk Y.supp (on (.lays cls Bundle.tN "suppressedExceptions" Bundle.listD) (by simp [Bundle.ownAtoms]))
  obtain ⟨tyM, -, -, -⟩ := Cond.laysAt hfX hk hfM (on (.lays cls Bundle.tN "detailMessage" "Ljava/lang/String;") (by simp [Bundle.ownAtoms]))
  obtain ⟨tyB, dB, gB, nB⟩ := Cond.laysAt hfX hk bf (on (.lays cls Bundle.tN "backtrace" "Ljava/lang/Object;") (by simp [Bundle.ownAtoms]))
  have aC := Cond.laysApart gB gC nB nC (by rw [bn, Y.causeName]; decide)
  have aS := Cond.laysApart gB gS nB nS (by rw [bn, Y.stackName]; decide)
  have aP := Cond.laysApart gB gP nB nP (by rw [bn, Y.suppName]; decide)
  have hskip : SkipFacts T e.platform s (fun u => u) u0 ((preparedCellV T.toThrowableT (freshCell P1.m.cls kX) a u0 sen).withEntry W0.cur) :=
    ⟨{ ci198 := ci9, i198 := i9, fBack := fB }, ⟨b1, b2, b3, b4⟩, by
      have := fresh_default (c := P1.m.cls) tyB
      rw [bt] at this
      simpa [preparedCellV, Cell.setSlot, Cell.withEntry, Array.getElem?_setIfInBounds, aC, aS, aP, aC.symm, aS.symm, aP.symm, defaultValue] using this, fun _ _ => rfl⟩
  obtain ⟨tm, _, _, _, vm1, hn1, -, -, -, -, -, -, -, hW1, st1⟩ := Steps.initColdS (tb := p.tables) (e := e) (below := below) (s := s) (U := W0) X.here hexec X.warmed hpl hown (t := Bundle.initS cls) rfl rfl (Bundle.fit_spec hcls).2
    (on (.methodLink own ic (Bundle.initS cls)) (by simp [Bundle.ownAtoms])) (h (.instanceMethod (Bundle.initS cls)) (by cases names <;> simp [Bundle.ownAtoms, Bundle.chainSAtoms, Bundle.passSAtoms])) (bytes := Bundle.six) (maxL := 2) (h (.code (Bundle.initS cls) Bundle.six 2 none) (by cases names <;> simp [Bundle.ownAtoms, Bundle.chainSAtoms, Bundle.passSAtoms]))
    (f := F0 m pc ls (.ref msg :: .ref a :: .ref a :: rest)) rfl (a := a) (msg := .ref msg) (rest := .ref a :: rest) rfl hd6
  cases hn1.symm.trans hP1
  have hl0 : 2 * (F0 m pc ls (.ref a :: rest)).monitorRoom + ((Value.ref a :: rest).map fun v => v.category).sum + (13 * (names.length + 1) + 42) ≤ R.locals := by
    show 2 * 0 + (1 + (rest.map fun v => v.category).sum) + (13 * (names.length + 1) + 42) ≤ R.locals
    omega
  obtain ⟨vm2, X2, st2⟩ := (X.noted hW1).ctorMessageOffV hexec (g := F0 m pc ls (.ref a :: rest)) rfl hsize T L Z LZ Mg LM (P1 :: Ps)
    (fun P hP => by
      rcases List.mem_cons.mp hP with rfl | hP
      · exact L1
      · exact hLs P hP) ⟨hk1, hks⟩ (u0 := u0) (sen := sen) (self := a) (msg := .ref msg) rfl (cell := freshCell P1.m.cls kX) (cellS := cS)
    hcell (fun _ => by simp) (by simp) rfl rfl (sel Y.fill0 (by decide) (by simp [Bundle.ownAtoms])) (sel Y.fill (by decide) (by simp [Bundle.ownAtoms])) hS1 hneS hSu (by rw [hkeep _ (off _)]; exact hu0) (by rw [hkeep _ (off _)]; exact hsen)
    (Takes.of_laid hk hord tyC (by rw [Y.causeType]; rfl)) (Takes.of_laid hk hord tyS (by rw [Y.stackType]; exact fits_refV_array _ u0)) (Takes.of_laid hk hord tyP (by rw [Y.suppType]; exact fits_refV_object _ sen))
    (Takes.of_laid hk hord tyM (by rw [Y.msgType]; rfl)) Y.objLocals hskip htr [] hd6
    (by simp only [List.length_cons, hlen]; omega) (by simp only [List.length_cons, hlen]; exact hl0)
  obtain ⟨hwalk, hrun, hend, hWU, hsame⟩ := X2.athrowLeaves hexec (g := F0 m (pc + 3) ls (.ref a :: rest)) rfl rfl rfl (fun x hx => by rw [hout] at hx; cases hx) (a := a) (rest := rest) rfl hd9 hlocks
  refine ⟨_, plainBareV T.toThrowableT (freshCell P1.m.cls kX) a u0 sen (.ref msg), st1 _ (fun acts => ?_), hrun, hend, hWU, hsame.weaken (fun y hy hlt => ?_) (Nat.le_refl _) (Nat.le_refl _), rfl, rfl, rfl⟩
  · rw [doInvoke_state]
    exact st2 _ hwalk
  · rcases List.mem_append.mp hy with h1 | h1
    · exact h1
    · exfalso
      have hb : y.base = a := by
        simp only [List.mem_cons, List.not_mem_nil, or_false] at h1
        rcases h1 with rfl | rfl | rfl | rfl | rfl <;> rfl
      rw [hb] at hlt
      exact Nat.not_lt.mpr hnew hlt
end XTH
end
section
/-! throwing, calls that may throw, catching -/
section XT3
/-- the words of a throw that are no good words: they come otherwise -/
def thX (cls : String) : List Cond := [.isRef (.static Bundle.tN "UNASSIGNED_STACK" Bundle.steD), .isRef (.static Bundle.tN "SUPPRESSED_SENTINEL" Bundle.listD), .laysStatic Bundle.tN "UNASSIGNED_STACK" Bundle.steD, .laysStatic Bundle.tN "SUPPRESSED_SENTINEL" Bundle.listD, .castable cls cls, .declares (Bundle.initS Bundle.tN), .declares (Bundle.initS "java/lang/RuntimeException"), .declares (Bundle.initS "java/lang/Exception")]
abbrev thN : List String := ["java/lang/RuntimeException", "java/lang/Exception"]
def ThrOK (own : String) (ic : Nat) (cls : String) : Prop := ∀ w ∈ Bundle.ownAtoms own ic cls thN, w ∈ gTB ∨ w ∈ thX cls
theorem ThrOK.of {own : String} {ic : Nat} {cls : String} (ix : List Nat) (hl : (Bundle.ownAtoms own ic cls thN).length ≤ ix.length) (h : ((Bundle.ownAtoms own ic cls thN).zip ix).all (fun q => decide (lw_tbl[q.2]? = some q.1) && goodWord q.1 || decide (q.1 ∈ thX cls)) = true) : ThrOK own ic cls := by
  intro w hw
  obtain ⟨k, hk⟩ := List.mem_iff_getElem?.mp hw
  have hlt : k < ix.length := Nat.lt_of_lt_of_le (List.getElem?_eq_some_iff.mp hk).1 hl
  have hz : ((Bundle.ownAtoms own ic cls thN).zip ix)[k]? = some (w, ix[k]) := by
    rw [List.getElem?_zip_eq_some]
    exact ⟨hk, List.getElem?_eq_getElem hlt⟩
  have := List.all_eq_true.mp h _ (List.mem_of_getElem? hz)
  simp only [Bool.or_eq_true, Bool.and_eq_true, decide_eq_true_eq] at this
  rcases this with ⟨h1, h2⟩ | h1
  · exact Or.inl (List.mem_filter.mpr ⟨List.mem_of_getElem? h1, h2⟩)
  · exact Or.inr h1
theorem thrIA : ThrOK "DrillArchive" 59 "java/lang/IllegalArgumentException" := ThrOK.of [67, 724, 733, 736, 739, 741, 725, 726, 88, 89, 727, 732, 737, 757, 714, 758, 716, 759, 718, 728, 729, 730, 731, 720, 753, 754, 756, 720, 744, 745, 746, 747, 706, 747, 748, 749, 750, 708, 750, 751, 752, 753, 710, 743, 703, 704, 711, 712, 713, 715, 717, 719, 0, 0, 723, 722, 721] (by decide +kernel) (by decide +kernel)
theorem thrIO : ThrOK "DrillArchive" 81 "java/lang/IndexOutOfBoundsException" := ThrOK.of [67, 724, 733, 736, 739, 741, 725, 726, 88, 89, 727, 732, 737, 757, 714, 758, 716, 759, 718, 728, 729, 730, 731, 720, 753, 754, 756, 720, 793, 794, 795, 747, 706, 747, 748, 749, 750, 708, 750, 751, 752, 753, 710, 792, 783, 784, 785, 735, 786, 787, 788, 789, 0, 0, 723, 722, 790] (by decide +kernel) (by decide +kernel)
theorem gl {w : Cond} (i : Nat) (h : lw_tbl[i]? = some w) (hg : goodWord w = true) : w ∈ gTB := List.mem_filter.mpr ⟨List.mem_of_getElem? h, hg⟩
theorem thrD0 : Cond.instanceMethod (Bundle.initS Bundle.tN) ∈ gTB ∧ Cond.code (Bundle.initS Bundle.tN) LibCode.Throwable.InitS.code 2 none ∈ gTB := ⟨gl 753 (by decide +kernel) rfl, gl 754 (by decide +kernel) rfl⟩
theorem thrD1 : Cond.instanceMethod (Bundle.initS "java/lang/RuntimeException") ∈ gTB ∧ Cond.code (Bundle.initS "java/lang/RuntimeException") Bundle.six 2 none ∈ gTB := ⟨gl 747 (by decide +kernel) rfl, gl 748 (by decide +kernel) rfl⟩
theorem thrD2 : Cond.instanceMethod (Bundle.initS "java/lang/Exception") ∈ gTB ∧ Cond.code (Bundle.initS "java/lang/Exception") Bundle.six 2 none ∈ gTB := ⟨gl 750 (by decide +kernel) rfl, gl 751 (by decide +kernel) rfl⟩
theorem declares_of {x : MethodName} {b : ByteArray} {nl : Nat} {r : Option FieldType} {args : Array Value} {s : State} (h1 : (Cond.instanceMethod x).before args s = true) (h2 : (Cond.code x b nl r).before args s = true) : (Cond.declares x).before args s = true := by
  obtain ⟨mm, meth, hn, hm, hst, -⟩ := Cond.instanceMethod_spec h1
  obtain ⟨meth', c, hm', -, -, -, -, -, -, hsig⟩ := Cond.code_spec hn h2
  cases hm.symm.trans hm'
  simp [Cond.before, Cond.holds, Cond.value, hn, hm, hst, hsig]
theorem asg_self (vm : Vm) (c : ClassId) : vm.assignable c c = true := by
  show vm.assignableAux (255 + 1) c c = true
  unfold Vm.assignableAux
  simp
theorem castable_self {C : String} {args : Array Value} {s : State} {c : ClassId} (h : s.vm.findClass C = some c) : (Cond.castable C C).before args s = true := by
  simp [Cond.before, Cond.holds, Cond.value, h, asg_self]
theorem va_LS.word {C n d : String} {A : Nat → Prop} {s : State} {args : Array Value} (h : va_LS C n d A s s.heap) : (Cond.laysStatic C n d).before args s = true := by
  obtain ⟨c, k, i, f, a, cell, h0, h1, h2, h3, h4, h5, h6, h7, h8, h9⟩ := h
  simp [Cond.before, Cond.holds, Cond.value, h0, h1, h2, h3, h4, h5, h6, h7, h8]
variable {l : Launch} {M : xM} {D : xD} {R : Room} {A : Nat → Prop} {mc ms pc k n : Nat} {lv : List (Nat × Value)} {st : List Value} {S : List va_W}
theorem Fx.table {hh : Option xH} {p : Program} {e : Env} {s : State} {m : MethodId} {args : Array Value} {below : List Frame} {meth : Method} {c : Code} {T : State} {locs : List Loc} {cells slots : Nat} (F : Fx M D A p s m args meth c) (hcode : xcw M hh ∈ gTB) (X : Stand p l e R s m args below meth c T locs cells slots) : c.exceptionTable.toList.map (fun h => (h.startPc, h.endPc, h.handlerPc, h.catchType)) = hh.getD [] := by
  obtain ⟨ho, hx, hb, hml, -, hown, hts, hlocks, hin, hK, hN, hX, hA, htb⟩ := id F
  obtain ⟨meth', c', g1, g2, -, -, -, -, g7, -⟩ := xcw_spec hin.2.1 (hts _ hcode)
  cases X.method.symm.trans g1
  cases X.code.symm.trans g2
  exact g7
theorem Ex.thr {ci ic tt : Nat} {X : String} {Q : Option Value → List va_W → Prop} {E : Nat → List va_W → Prop} (hfl : l.flags = pinnedFlags ++ [noTraceFlag]) (hg : xnw M pc = some ci) (hX : gON[ci]? = some X) (hc : (gCL[ci]?).map (fun r => r.2.2) = some 6) (hdup : xfe M.2.2.2.2.2 (pc + 3) = some .dup) (hld : xcs M (pc + 4) = some tt) (hinv : xfe M.2.2.2.2.2 (pc + 6) = some (.invokespecial ic)) (hath : xfe M.2.2.2.2.2 (pc + 9) = some .athrow)
    (how : ThrOK M.2.1.cls ic X) (hfit : Bundle.fit X = true) (hcode : xcw M none ∈ gTB) (h1 : k + 1 ≤ R.cells) (h2 : n + 6 ≤ R.slots) (hmc : k + 1 ≤ mc) (hms : n + 6 ≤ ms) (hrf : 6 ≤ R.frames) (hrl : (st.map fun v => v.category).sum + 82 ≤ R.locals) (hE : E ci S) : Ex l M D R A (xQT D A Q E) mc ms pc lv st S k n := by
  intro p e s m args below meth c H locs ls F hS hP hD hl
  obtain ⟨ho, hx, hb, hml, -, hown, hts, hlocks, hin, hK, hN, hXs, hA, htb⟩ := id F
  have hd3 := htb _ (xfe_mem _ _ _ hdup)
  have hd6 := htb _ (xfe_mem _ _ _ hinv)
  have hd9 := htb _ (xfe_mem _ _ _ hath)
  unfold xnw at hg
  split at hg
  · rename_i ix hf
    have hd := htb _ (xfe_mem _ _ _ hf)
    have h3 := List.all_eq_true.mp gKL_b _ (xf3_mem _ _ _ _ hg)
    cases hr : gCL[ci]? with
    | none => rw [hr] at hc; cases hc
    | some r =>
      rw [hr] at hc
      simp only [Option.map_some, Option.some.injEq] at hc
      have hok := gCL_ok r (List.mem_of_getElem? hr)
      simp only [decide_eq_true_eq, gON_D ho, gON_D (gNM_at hr)] at h3
      have hrX : r.1 = X := Option.some.inj ((gNM_at hr).symm.trans hX)
      have hins := hts _ hok.2.2.2.1
      rw [hc] at hins
      refine W.newc (g := F0 m pc ls st) hx hb hown (hts _ h3) hins (hts _ hok.2.2.2.2) rfl hd h1 h2 (fun cC kC e1 e2 e3 e4 => ?_)
      show W p l e R s m args below meth c _ locs (k + 1) (n + 6) _ (F0 m (pc + 3) ls (.ref H.size :: st))
      refine lv_dup hx hb hd3 rfl ?_
      unfold xcs at hld
      split at hld
      · rename_i ix2 hf2
        have hd4 := htb _ (xfe_mem _ _ _ hf2)
        have h5 := List.all_eq_true.mp gCS_b _ (xf3_mem _ _ _ _ hld)
        obtain ⟨z, hz, h6⟩ := List.any_eq_true.mp h5
        simp only [Bool.and_eq_true, decide_eq_true_eq, gON_D ho] at h6
        obtain ⟨⟨a1, a2⟩, a3⟩ := h6
        have hR := hN.2.2 z hz
        have a2 := Nat.eq_of_beq_eq_true a2
        have a3 := Nat.eq_of_beq_eq_true a3
        rw [a1, a2, a3] at hR
        refine va_ldcS hx hb hown hR hd4 ?_
        intro T hT X0
        have hout : c.exceptionTable.toList = [] := List.map_eq_nil_iff.mp (F.table hcode X0)
        have hfX : s.vm.findClass r.1 = some (D.1 ci) := (hK.1 ci r hr).2.1
        cases hfX.symm.trans e1
        have hcell : T.heap[H.size]? = some (freshCell (D.1 ci) kC) := by rw [hT]; simp
        obtain ⟨U, ce, u1, u2, u3, u4, u5, u6, u7, u8⟩ := x_throw (own := M.2.1.cls) (cls := r.1) (names := thN) (ic := ic) (a := H.size) (msg := D.2.2.2.1 tt) (pc := pc + 6) (ls := ls) (rest := st) X0 hx (Launch.traces_off hfl X0.admits) hown (by rw [hrX]; exact hfit) (by decide)
          (fun w hw => by
            rw [hrX] at hw
            rcases how w hw with q | q
            · exact hts w q
            · simp only [thX, List.mem_cons, List.not_mem_nil, or_false] at q
              rcases q with rfl | rfl | rfl | rfl | rfl | rfl | rfl | rfl
              · exact hXs.2.2.2.1.isRef
              · exact hXs.2.2.2.2.1.isRef
              · exact hXs.2.2.2.2.2.1.word
              · exact hXs.2.2.2.2.2.2.word
              · exact castable_self (hrX ▸ hfX)
              · exact declares_of (hts _ thrD0.1) (hts _ thrD0.2)
              · exact declares_of (hts _ thrD1.1) (hts _ thrD1.2)
              · exact declares_of (hts _ thrD2.1) (hts _ thrD2.2))
          (fun x hx9 cell hc9 => hin.2.2 _ (hS.2.2 x hx9) cell hc9) hfX e2 hcell hS.1 (hl.1.trans hml.symm) (by rw [hb]; exact hd6) (by rw [hb]; exact hd9) hout (by show 2 + 3 < R.frames; omega) (by show _ + (13 * 3 + 43) ≤ R.locals; omega) hlocks
        have hU : ∀ q : Nat, q < H.size → U.heap[q]? = H[q]? := by
          intro q hq
          rw [u6, hT, Array.getElem?_setIfInBounds_ne (by omega), Array.getElem?_push, if_neg (by omega)]
        have hUa : U.heap[H.size]? = some ce := by
          rw [u6, hT, Array.getElem?_setIfInBounds_self]
          simp
        have hUs : U.heap.size = H.size + 1 := by rw [u6, hT]; simp
        refine ⟨U, u1, .threw H.size, u2, u3, ⟨Or.inr ⟨H.size, ci, S, ce, rfl, hE, ?_, hD, hUa, u8, u7⟩, ?_, fun q h1 h2 => ?_⟩, u4, locs, u5.mono hmc hms, hS.2.2⟩
        · rw [va_P_iff] at hP ⊢
          intro q hq
          exact (hP q hq).kept (hU _ (hP q hq).lt)
        · rw [hUs]; exact Nat.le_succ_of_le hS.1
        · rw [hU q (Nat.lt_of_lt_of_le h1 hS.1)]
          exact hS.2.1 q h1 h2
      · cases hld
  · cases hg
end XT3
end
section
/-! a call that may throw; propagation; catching -/
section XT4
variable {p : Program} {l : Launch} {e : Env} {R : Room} {s : State} {m : MethodId} {args : Array Value} {below : List Frame} {meth : Method} {c : Code} {U : State} {H : Heap} {locs : List Loc} {cells slots : Nat} {Q : State → Prop}
/-- the walk from a throw that has come over the frame g -/
def Wt (p : Program) (l : Launch) (e : Env) (R : Room) (s : State) (m : MethodId) (args : Array Value) (below : List Frame) (meth : Method) (c : Code) (H : Heap) (locs : List Loc) (cells slots : Nat) (Q : State → Prop) (g : JFrame) (x : Nat) : Prop :=
  ∀ T : State, T.heap = H → Stand p l e R s m args below meth c T locs cells slots → ∃ t, Steps p.tables e below ((T.setTop g).pushFrame (.throwing x)) t ∧ Q t
theorem x_callee (X : Stand p l e R s m args below meth c U locs cells slots) {g : JFrame} (hg : g.method = m) (hsize : g.locals.size = c.maxLocals) {ig : Instr} {len : Nat} (hdg : decode c.code g.pc = .ok (ig, len)) {y : MethodName} {Sp : Spec} {Pc : Array Value → State → Prop} {Qc : Array Value → State → Outcome → State → Prop} (hM : MetFree l y Sp Pc (fun _ _ _ _ _ => True) Qc) {mk : MethodId} {a : Array Value} (hn : U.methodNamed? y = some mk) (hpre : Sp.pre.before a U = true) {methY : Method} {cY : Code} (hmY : U.vm.method? mk = some methY) (hcY : methY.code = some cY) (hini : (Cond.initialized y.cls).before a U = true) (hfr : Sp.room.frames + 1 ≤ R.frames) (hlo : 2 * g.monitorRoom + (g.stack.map fun v => v.category).sum + (cY.maxLocals + 11) + Sp.room.locals ≤ R.locals) (hce : cells + Sp.room.cells ≤ R.cells) (hsl : slots + Sp.room.slots ≤ R.slots) (hP : Pc a (U.calling g mk a)) :
    ∃ o t, Steps p.tables e below (doInvoke e (U.setTop g) [] mk a).1 t ∧ Ended t (.java g :: below) o ∧ Qc a (U.calling g mk a) o t := by
  obtain ⟨kY, hkY, -⟩ := className_of_methodNamed hn
  have hi : kY.init = .initialized := Cond.initialized_spec (findClass_of_methodNamed hn) hkY hini
  have h : At U g.method c below := by rw [hg]; exact X.here
  have happ : Sp.appliesLoose y e.platform (U.calling g mk a) = true := Spec.appliesLoose_calling (g := g) h hdg hn hkY hi (X.room_calling (g := g) (R' := Sp.room) hsize hmY hcY hfr hlo hce hsl) hpre
  obtain ⟨mid, hmid⟩ := h.above
  have hf2 : (U.setTop g).frames = (.java g :: mid) ++ below := by rw [State.frames_setTop' g h.top, hmid]; rfl
  obtain ⟨o, t, h1, -, h3, h4⟩ := Steps.callFree hM p X.admits X.cas X.clock (acts := []) hf2 happ hP trivial
  refine ⟨o, t, h1, ?_, h4⟩
  rw [State.frames_setTop' g h.top, X.tail] at h3
  exact h3
/-- behind an invocation of a method whose contract may throw -/
theorem x_back {D : xD} {A A1 : Nat → Prop} {H0 : Heap} {mc ms : Nat} {Q0 : Option Value → List va_W → Prop} {E0 : Nat → List va_W → Prop} {pc ig9 : Nat} {ls : Array Slot} {rest : List Value} {ig : Instr} {mk : MethodId} {a : Array Value} {o : Outcome} {t : State}
    (X : Stand p l e R s m args below meth c U locs cells slots) (hU : U.heap = H) (hS : va_S A H0 H locs) (hA : ∀ q, A1 q → A q) (hdg : decode c.code pc = .ok (ig, 3))
    (hend : Ended t (.java (F0 m pc ls rest) :: below) o) (hq : xQT D A1 Q0 E0 a (U.calling (F0 m pc ls rest) mk a) o t ∧ (U.calling (F0 m pc ls rest) mk a).WarmedH t.vm ∧ ∃ L, (U.calling (F0 m pc ls rest) mk a).sameButNew ({ t with vm := (U.calling (F0 m pc ls rest) mk a).vm } : State) L mc ms ∧ ∀ q ∈ L, A1 q.base)
    (kr : ∀ (v : Option Value) (S1 : List va_W) (H1 : Heap) (locs1 : List Loc), Q0 v S1 → va_P (xG D) gCL S1.flatten H1 → va_D A1 S1.flatten → (∀ q : Nat, q < H.size → ¬ A1 q → H1[q]? = H[q]?) → va_S A H0 H1 locs1 → W p l e R s m args below meth c H1 locs1 (cells + mc) (slots + ms) Q (F0 m (pc + 3) ls (v.toList ++ rest)))
    (kt : ∀ (x cc : Nat) (S1 : List va_W) (H1 : Heap) (locs1 : List Loc) (cell : Cell), E0 cc S1 → va_P (xG D) gCL S1.flatten H1 → va_D A1 S1.flatten → (∀ q : Nat, q < H.size → ¬ A1 q → H1[q]? = H[q]?) → va_S A H0 H1 locs1 → H1[x]? = some cell → cell.vm = .none → cell.cls = D.1 cc → Wt p l e R s m args below meth c H1 locs1 (cells + mc) (slots + ms) Q (F0 m pc ls rest) x) :
    ∃ t2, Steps p.tables e below t t2 ∧ Q t2 := by
  obtain ⟨⟨ho, hz, hk⟩, hW, L, hsame, hL⟩ := hq
  have hz : H.size ≤ t.heap.size := by rw [← hU]; exact hz
  have hk : ∀ q : Nat, q < H.size → ¬ A1 q → t.heap[q]? = H[q]? := by rw [← hU]; exact hk
  have hS1 : va_S A H0 t.heap (locs ++ L) := ⟨Nat.le_trans hS.1 hz, fun q h1 h2 => by rw [hk q (Nat.lt_of_lt_of_le h1 hS.1) (fun z => h2 (hA q z))]; exact hS.2.1 q h1 h2, fun q hq => by
      rcases List.mem_append.mp hq with h | h
      · exact hS.2.2 q h
      · exact hA _ (hL q h)⟩
  rcases ho with ⟨v, S1, rfl, hq, hP, hD⟩ | ⟨x, cc, S1, cell, rfl, he, hP, hD, hx1, hx2, hx3⟩
  · obtain ⟨T', X', -, -, et⟩ := X.outOf (g := F0 m pc ls rest) rfl (ig := ig) (len := 3) hdg hend hW hsame
    have eh : T'.heap = t.heap := by rw [et]; simp [State.setTop, State.modifyTopJava]
    obtain ⟨t2, h1, h2⟩ := kr v S1 t.heap (locs ++ L) hq hP hD hk hS1 T' eh X'
    refine ⟨t2, ?_, h2⟩
    rw [et]
    exact h1
  · obtain ⟨T', X', -, -, et⟩ := X.outOfThrown (g := F0 m pc ls rest) rfl hend hW hsame
    have eh : T'.heap = t.heap := by rw [et, Stand.throwing_heap]
    obtain ⟨t2, h1, h2⟩ := kt x cc S1 t.heap (locs ++ L) cell he hP hD hk hS1 hx1 hx2 hx3 T' eh X'
    refine ⟨t2, ?_, h2⟩
    rw [et]
    exact h1
end XT4
section XT5
variable {l : Launch} {M : xM} {D : xD} {R : Room} {A : Nat → Prop} {Q : Array Value → State → Outcome → State → Prop} {mc ms pc k n : Nat} {lv : List (Nat × Value)} {st : List Value} {S : List va_W}
/-- the judgement of a throw of kind cc that has come to the place pc -/
def Et (l : Launch) (M : xM) (D : xD) (R : Room) (A : Nat → Prop) (Q : Array Value → State → Outcome → State → Prop) (mc ms : Nat) (pc : Nat) (lv : List (Nat × Value)) (st : List Value) (S : List va_W) (k n : Nat) (x cc : Nat) : Prop :=
  ∀ (p : Program) (e : Env) (s : State) (m : MethodId) (args : Array Value) (below : List Frame) (meth : Method) (c : Code) (H : Heap) (locs : List Loc) (ls : Array Slot) (cell : Cell),
    Fx M D A p s m args meth c → va_S A s.heap H locs → va_P (xG D) gCL S.flatten H → va_D A S.flatten → lv_has ls M.2.2.2.1 lv → H[x]? = some cell → cell.vm = .none → cell.cls = D.1 cc →
    Wt p l e R s m args below meth c H locs k n (MQx below Q args s mc ms A) (F0 m pc ls st) x
theorem callW_pre {Mc : xM} {hh : Option xH} {Rc : Room} {s U : State} {args a : Array Value} (hW : s.WarmedH U.vm) (hts : ∀ w ∈ gTB, w.before args s = true) (hcw : xcw Mc hh ∈ gTB) : (headSpec (xcw Mc hh :: gTB) Rc).pre.before a U = true :=
  atoms_intro fun w hw => by
    rcases List.mem_cons.mp hw with rfl | hw
    · exact word_at hW (gTB_good hcw) (hts _ hcw)
    · exact word_at hW (gTB_good hw) (hts _ hw)
/-- 'invokevirtual' of a method that may throw -/
theorem Ex.cvT {Mc : xM} {Rc : Room} {b ix ic jc ci : Nat} {As rest st0 : List Value} {Q0 : Option Value → List va_W → Prop} {E0 : Nat → List va_W → Prop} {Sc Sr : List va_W} {C : va_W} {fs : List Value} (is rs : List Nat) (hct : CtT l Mc none D Rc (.ref b :: As) Sc Q0 E0) (hf : xfe M.2.2.2.2.2 pc = some (.invokevirtual ix)) (hlk : Lk M.2.1.cls ix Mc) (hm : LkV Mc As.length)
    (hst : st0 = As.reverse ++ .ref b :: rest) (hc : pk S is Sc) (hr : pk S rs Sr) (hn1 : va_nd is = true) (hn2 : va_nd rs = true) (hdis : ∀ i ∈ rs, i ∉ is) (hic : S[ic]? = some C) (hjc : C[jc]? = some (b, .inr (ci, fs))) (hci : gON[ci]? = some Mc.2.1.cls) (hlt : ci < 13)
    (hR : Rc.frames + 1 ≤ R.frames ∧ 8 + (Mc.2.2.2.1 + 11) + Rc.locals ≤ R.locals) (hrm : (rest.map fun v => v.category).sum ≤ 8) (h1 : k + Rc.cells ≤ R.cells) (h2 : n + Rc.slots ≤ R.slots)
    (kk : ∀ (v : Option Value) (S1 : List va_W), Q0 v S1 → Ex l M D R A Q mc ms (pc + 3) lv (v.toList ++ rest) (Sr ++ S1) (k + Rc.cells) (n + Rc.slots))
    (ke : ∀ (x cc : Nat) (S1 : List va_W), E0 cc S1 → Et l M D R A Q mc ms pc lv rest (Sr ++ S1) (k + Rc.cells) (n + Rc.slots) x cc) : Ex l M D R A Q mc ms pc lv st0 S k n := by
  intro p e s m args below meth c H locs ls F hS hP hD hl
  obtain ⟨ho, hx, hb, hml, -, hown, hts, -, hin, hK, hN, hX, hA, htb⟩ := id F
  have hd := htb _ (xfe_mem _ _ _ hf)
  obtain ⟨hpre, hsub⟩ := x_pre (av := .ref b :: As) F hS hP hD hc hn1
  obtain ⟨q0, hq0, -⟩ := fl_pos S ic jc C _ hic hjc
  cases hr0 : gCL[ci]? with
  | none => exact absurd (List.getElem?_eq_none_iff.mp hr0) (by show ¬ (13 ≤ ci); omega)
  | some r =>
    have hrn : r.1 = Mc.2.1.cls := Option.some.inj ((gNM_at hr0).symm.trans hci)
    obtain ⟨cell, g1, g2, g3⟩ := va_recv hK hP hr0 hq0
    rw [hrn] at g3
    intro T hT X
    have hcode : xcw Mc none ∈ gTB := hm.1.2.1
    obtain ⟨mk, methM, hnamed, hmethM, hstM, habM⟩ := Cond.instanceMethod_spec (hts _ hm.2.1)
    obtain ⟨methM', cM, hmethM', hcM, -, hlM, -, -, -, hsigM⟩ := Cond.code_spec hnamed (hts _ hm.1.2.1)
    cases hmethM.symm.trans hmethM'
    obtain ⟨c2, r2, m2, q1, q2, q3, q4, kP, hkP, hkPi⟩ := Cond.selects_spec (hts _ hm.2.2)
    cases g3.symm.trans q1
    cases (State.methodFound?_of_named hnamed ⟨hm.1.2.2.1, hm.1.2.2.2.1⟩).symm.trans q2
    cases hnamed.symm.trans q3
    have hsel : selectMethod e.platform s.vm cell.cls mk = .method mk := by rw [Launch.admits_selectMethod X.admits]; exact q4
    have hnp : As.length = methM.sig.parameters.length := by
      have h9 := hm.1.2.2.2.2
      rw [hsigM] at h9
      exact (Option.some.inj h9).symm
    obtain ⟨vm1, X1, st1⟩ := X.invokevirtual hx hown (hts _ hlk) hnamed hmethM hstM hkP hkPi ⟨hm.1.2.2.1, hm.1.2.2.2.1⟩ (a := b) (cell := cell) (by rw [hT]; exact g1) (fun z h => by rw [h] at g2; cases g2) hsel hmethM habM hkP hkPi (g := F0 m pc ls st0) rfl (argsL := As) (rest := rest) hnp hst (by rw [hb]; exact hd)
    have hsz : (F0 m pc ls rest).locals.size = c.maxLocals := hl.1.trans hml.symm
    have hal := X1.warmed.alike
    have hini : (Cond.initialized Mc.2.1.cls).before (Value.ref b :: As).toArray (T.setVm vm1) = true := word_at (U := T.setVm vm1) X1.warmed (gTB_good hm.1.1) (hts _ hm.1.1)
    obtain ⟨o, t, a1, a2, a3⟩ := x_callee (U := T.setVm vm1) (g := F0 m pc ls rest) X1 rfl hsz (by rw [hb]; exact hd) (hct H.size) (a := (Value.ref b :: As).toArray) (X1.named hnamed) (callW_pre (U := T.setVm vm1) X1.warmed hts hcode) (methY := methM) (cY := cM) (by rw [hal.method?]; exact hmethM) hcM hini hR.1 (by
        have := lv_room (m := m) (pc := pc) (ls := ls) (rest := rest) hrm
        have h8 := hR.2
        rw [← hlM] at h8
        show 2 * (F0 m pc ls rest).monitorRoom + (rest.map fun v => v.category).sum + (cM.maxLocals + 11) + Rc.locals ≤ R.locals
        omega) h1 h2 (xP_blind _ _ _ _ (hpre (T.setVm vm1) hT X1.warmed))
    obtain ⟨t2, b1, b2⟩ := x_back (U := T.setVm vm1) (H := H) (ig9 := 0) (mk := mk) X1 hT hS hsub (by rw [hb]; exact hd) a2 a3 (Q := MQx below Q args s mc ms A)
      (fun v S1 H1 locs1 hq hP1 hD1 hk1 hS1 => by
        obtain ⟨hP2, hD2⟩ := seg_join hP hD hc hr hn2 hdis hk1 hsub hP1 hD1
        exact kk v S1 hq p e s m args below meth c H1 locs1 ls F hS1 hP2 hD2 hl)
      (fun x cc S1 H1 locs1 cell hE hP1 hD1 hk1 hS1 hx1 hx2 hx3 => by
        obtain ⟨hP2, hD2⟩ := seg_join hP hD hc hr hn2 hdis hk1 hsub hP1 hD1
        exact ke x cc S1 hE p e s m args below meth c H1 locs1 ls cell F hS1 hP2 hD2 hl hx1 hx2 hx3)
    exact ⟨t2, st1 t2 (fun acts => by rw [doInvoke_state]; exact a1.trans b1), b2⟩
/-- the throw goes on out of the method -/
theorem Et.leave {Q0 : Option Value → List va_W → Prop} {E : Nat → List va_W → Prop} {x cc : Nat} (hcode : xcw M none ∈ gTB) (hmc : k ≤ mc) (hms : n ≤ ms) (hE : E cc S) : Et l M D R A (xQT D A Q0 E) mc ms pc lv st S k n x cc := by
  intro p e s m args below meth c H locs ls cell F hS hP hD hl hx1 hx2 hx3 T hT X
  obtain ⟨ho, hx, hb, hml, -, hown, hts, hlocks, hin, hK, hN, hX, hA, htb⟩ := id F
  have hout : c.exceptionTable.toList = [] := List.map_eq_nil_iff.mp (F.table hcode X)
  obtain ⟨h1, h2, h3, h4, h5⟩ := X.leaveThrown x (g := F0 m pc ls st) rfl rfl rfl (fun y hy => by rw [hout] at hy; cases hy) hlocks
  exact ⟨_, h1, .threw x, h2, h3, ⟨Or.inr ⟨x, cc, S, cell, rfl, hE, by rw [show (T.setFrames _).heap = T.heap from rfl, hT]; exact hP, hD, by rw [show (T.setFrames _).heap = T.heap from rfl, hT]; exact hx1, hx2, hx3⟩, by rw [show (T.setFrames _).heap = T.heap from rfl, hT]; exact hS.1, fun q h1 h2 => by rw [show (T.setFrames _).heap = T.heap from rfl, hT]; exact hS.2.1 q h1 h2⟩, h4, locs, h5.mono hmc hms, hS.2.2⟩
/-- caught -/
theorem Et.catch {hh : xH} {j : Nat} {X : String} {q : Nat × Nat × Nat × Nat} {x cc : Nat} (hcode : xcw M (some hh) ∈ gTB) (hX : gON[cc]? = some X) (hcc : cc < 13) (hj : hh[j]? = some q) (hcov : q.1 ≤ pc ∧ pc < q.2.1) (h0 : q.2.2.2 ≠ 0) (hlink : Cond.classLink M.2.1.cls q.2.2.2 X ∈ gTB)
    (hpre : ∀ i r, i < j → hh[i]? = some r → r.2.2.2 ≠ 0 ∧ cc = 11 ∧ Cond.classLink M.2.1.cls r.2.2.2 "java/lang/IndexOutOfBoundsException" ∈ gTB) (kk : Ex l M D R A Q mc ms q.2.2.1 lv [.ref x] S k n) : Et l M D R A Q mc ms pc lv st S k n x cc := by
  intro p e s m args below meth c H locs ls cell F hS hP hD hl hx1 hx2 hx3 T hT X0
  obtain ⟨ho, hx, hb, hml, -, hown, hts, hlocks, hin, hK, hN, hXs, hA, htb⟩ := id F
  have htab := F.table hcode X0
  have htab : c.exceptionTable.toList.map (fun h => (h.startPc, h.endPc, h.handlerPc, h.catchType)) = hh := htab
  have hlen : j < c.exceptionTable.toList.length := by
    have := (List.getElem?_eq_some_iff.mp hj).1
    rw [← htab, List.length_map] at this
    exact this
  have hat : ∀ i (h : i < c.exceptionTable.toList.length), hh[i]? = some (c.exceptionTable.toList[i].startPc, c.exceptionTable.toList[i].endPc, c.exceptionTable.toList[i].handlerPc, c.exceptionTable.toList[i].catchType) := by
    intro i h
    rw [← htab, List.getElem?_map, List.getElem?_eq_getElem h]
    rfl
  have hq := Option.some.inj ((hat j hlen).symm.trans hj)
  cases hr0 : gCL[cc]? with
  | none => exact absurd (List.getElem?_eq_none_iff.mp hr0) (by show ¬ (13 ≤ cc); omega)
  | some r =>
    have hfX : s.vm.findClass X = some cell.cls := by
      have := (hK.1 cc r hr0).2.1
      rw [Option.some.inj ((gNM_at hr0).symm.trans hX)] at this
      rw [hx3]
      exact this
    have hpl : e.platform.magicAccessors = ({} : Platform).magicAccessors := by rw [X0.admits.platform]
    have hct : (c.exceptionTable.toList[j]).catchType = q.2.2.2 := by rw [← hq]
    obtain ⟨hcat, hk0⟩ := X0.catches_of_link hown (x := c.exceptionTable.toList[j]) (by rw [hct]; exact h0) (by rw [hct]; exact hts _ hlink) hfX (asg_self s.vm cell.cls)
    obtain ⟨vm', X1, st1⟩ := X0.caughtThrough x (g := F0 m pc ls st) rfl (cell := cell) (by rw [hT]; exact hx1) (by rw [hx2]; rfl) hk0 (c.exceptionTable.toList.take j) c.exceptionTable.toList[j] (c.exceptionTable.toList.drop (j + 1)) (by rw [← List.drop_eq_getElem_cons hlen, List.take_append_drop])
      (fun y hy => by
        obtain ⟨i, hi⟩ := List.mem_iff_getElem?.mp hy
        obtain ⟨hi1, hi2⟩ := List.getElem?_eq_some_iff.mp hi
        rw [List.length_take] at hi1
        rw [List.getElem_take] at hi2
        have hil : i < c.exceptionTable.toList.length := by omega
        obtain ⟨p1, p2, p3⟩ := hpre i _ (by omega) (hat i hil)
        rw [hi2] at p1 p3
        obtain ⟨c', hc', hcl⟩ := Cond.classLink_spec hown (hts _ p3) e.platform hpl
        have hIO : s.vm.findClass "java/lang/IndexOutOfBoundsException" = some (D.1 12) := (hK.1 12 _ rfl).2.1
        cases hIO.symm.trans hc'
        refine Or.inr ⟨p1, D.1 12, hcl, ?_⟩
        rw [hx3, p2]
        exact hN.2.1.2) (by
        have e1 : (c.exceptionTable.toList[j]).startPc = q.1 := by rw [← hq]
        have e2 : (c.exceptionTable.toList[j]).endPc = q.2.1 := by rw [← hq]
        simp only [covers, e1, e2]
        simp [hcov.1, hcov.2]) hcat
    have hh9 : (c.exceptionTable.toList[j]).handlerPc = q.2.2.1 := by rw [← hq]
    obtain ⟨t2, b1, b2⟩ := kk p e s m args below meth c H locs ls F hS hP hD hl (T.setVm vm') hT X1
    refine ⟨t2, ?_, b2⟩
    rw [X0.pushThrowing_eq]
    refine st1 t2 ?_
    rw [hh9]
    exact b1
/-- 'invokestatic' of a method with handlers, which throws nothing -/
theorem Ex.csW {Mc : xM} {hh : xH} {Rc : Room} {ix : Nat} {As rest st0 : List Value} {Q0 : Option Value → List va_W → Prop} {Sc Sr : List va_W} (is rs : List Nat) (hct : CtT l Mc (some hh) D Rc As Sc Q0 (fun _ _ => False)) (hf : xfe M.2.2.2.2.2 pc = some (.invokestatic ix)) (hlk : Lk M.2.1.cls ix Mc) (hcw : xcw Mc (some hh) ∈ gTB) (hcs : Cond.static Mc.2.1 ∈ gTB) (hini : Cond.initialized Mc.2.1.cls ∈ gTB) (hpn : plainName Mc.2.1.cls = true ∧ Mc.2.1.cls ≠ "java/lang/invoke/MethodHandle" ∧ Mc.2.1.cls ≠ "java/lang/invoke/VarHandle") (hnp : (parseMethodDescriptor Mc.2.1.desc).map (fun d => d.parameters.length) = some As.length)
    (hst : st0 = As.reverse ++ rest) (hc : pk S is Sc) (hr : pk S rs Sr) (hn1 : va_nd is = true) (hn2 : va_nd rs = true) (hdis : ∀ i ∈ rs, i ∉ is)
    (hR : Rc.frames + 1 ≤ R.frames ∧ 8 + (Mc.2.2.2.1 + 11) + Rc.locals ≤ R.locals) (hrm : (rest.map fun v => v.category).sum ≤ 8) (h1 : k + Rc.cells ≤ R.cells) (h2 : n + Rc.slots ≤ R.slots)
    (kk : ∀ (v : Option Value) (S1 : List va_W), Q0 v S1 → Ex l M D R A Q mc ms (pc + 3) lv (v.toList ++ rest) (Sr ++ S1) (k + Rc.cells) (n + Rc.slots)) : Ex l M D R A Q mc ms pc lv st0 S k n := by
  intro p e s m args below meth c H locs ls F hS hP hD hl
  obtain ⟨ho, hx, hb, hml, -, hown, hts, -, hin, hK, hN, hX, hA, htb⟩ := id F
  have hd := htb _ (xfe_mem _ _ _ hf)
  obtain ⟨hpre, hsub⟩ := x_pre (av := As) F hS hP hD hc hn1
  intro T hT X
  obtain ⟨mk, methM, cM, hnamed, hmethM, hcM, -, hlM, -, -, -, hsigM⟩ := Cond.codeWith_spec (hts _ hcw)
  have hstatic : methM.isStatic = true := Cond.static_spec hnamed hmethM (hts _ hcs)
  obtain ⟨kP, hkP, -⟩ := className_of_methodNamed hnamed
  have hinitP : kP.init = .initialized := Cond.initialized_spec (findClass_of_methodNamed hnamed) hkP (hts _ hini)
  have hlen : As.length = methM.sig.parameters.length := by
    rw [hsigM] at hnp
    exact (Option.some.inj hnp).symm
  obtain ⟨vm1, X1, st1⟩ := X.invokestatic hx hown (hts _ hlk) hnamed hmethM hstatic hkP hinitP hpn.2 (g := F0 m pc ls st0) rfl (argsL := As) (rest := rest) hlen hst (by rw [hb]; exact hd)
  have hsz : (F0 m pc ls rest).locals.size = c.maxLocals := hl.1.trans hml.symm
  have hal := X1.warmed.alike
  have hini1 : (Cond.initialized Mc.2.1.cls).before As.toArray (T.setVm vm1) = true := word_at (U := T.setVm vm1) X1.warmed (gTB_good hini) (hts _ hini)
  obtain ⟨o, t, a1, a2, a3⟩ := x_callee (U := T.setVm vm1) (g := F0 m pc ls rest) X1 rfl hsz (by rw [hb]; exact hd) (hct H.size) (a := As.toArray) (X1.named hnamed) (callW_pre (U := T.setVm vm1) X1.warmed hts hcw) (methY := methM) (cY := cM) (by rw [hal.method?]; exact hmethM) hcM hini1 hR.1 (by
      have := lv_room (m := m) (pc := pc) (ls := ls) (rest := rest) hrm
      have h8 := hR.2
      rw [← hlM] at h8
      show 2 * (F0 m pc ls rest).monitorRoom + (rest.map fun v => v.category).sum + (cM.maxLocals + 11) + Rc.locals ≤ R.locals
      omega) h1 h2 (xP_blind _ _ _ _ (hpre (T.setVm vm1) hT X1.warmed))
  obtain ⟨t2, b1, b2⟩ := x_back (U := T.setVm vm1) (H := H) (ig9 := 0) (mk := mk) X1 hT hS hsub (by rw [hb]; exact hd) a2 a3 (Q := MQx below Q args s mc ms A)
    (fun v S1 H1 locs1 hq hP1 hD1 hk1 hS1 => by
      obtain ⟨hP2, hD2⟩ := seg_join hP hD hc hr hn2 hdis hk1 hsub hP1 hD1
      exact kk v S1 hq p e s m args below meth c H1 locs1 ls F hS1 hP2 hD2 hl)
    (fun x cc S1 H1 locs1 cell hE => hE.elim)
  exact ⟨t2, st1 t2 (fun acts => by rw [doInvoke_state]; exact a1.trans b1), b2⟩
end XT5
end
section
/-! DrillArchive: its cells, knownTool, knownFile -/
abbrev sDa (a pl w un fe dr f : Nat) : va_W := [(a, .inr (0, [.ref pl, .ref w, .ref un, .ref fe, .ref dr, .ref f]))]
/-- what an archive is: tools, hits, units, bytes fed, files -/
abbrev SD : Type := List (Int32 × Bool) × List HV × List Int32 × List Nat × List (Nat × List Nat)
def IsDa (D : xD) (a : Nat) (z : SD) (S : List va_W) : Prop := ∃ (pl w un fe dr f r : Nat) (kp : Bool) (kf kt : Int32) (c0 c1 c2 : Nat) (xs : List Int32) (ts : List TV) (hs : List (Nat × HV)) (fs : List FV) (Cp Co Cu Cf Cd T Cs F : va_W),
  S = [sDa a pl w un fe dr f, Cp, sTw w pl r kp kf kt, Co, Cu, Cf, Cd, T, sHs hs, Cs, F] ∧ IsPlA D pl Cp ∧ IsRow D r 2600 c0 xs Co ∧ (kp = true → xs = textD kf kt z.1 z.2.1) ∧ IsRow D un 2000 c1 z.2.2.1 Cu ∧ IsRow D fe 2600 c2 (z.2.2.2.1.map nI) Cf ∧ (∀ b ∈ z.2.2.2.1, b < 256) ∧
  IsDr D dr ts hs Cd T (sHs hs) ∧ DrOK ts hs ∧ HvT ts.length (hs.map (fun h => h.2)) ∧ ts.map tvo = z.1 ∧ hs.map (fun h => h.2) = z.2.1 ∧ IsFs D f fs Cs F ∧ fs.map frb = z.2.2.2.2
section DA0
variable {l : Launch} {D : xD} {R : Room}
theorem ct_Da_knownTool {a pl w un fe dr f : Nat} {i : Int32} {ts : List TV} {hs : List (Nat × HV)} {Cd T Hs : va_W} (hfl : l.flags = pinnedFlags ++ [noTraceFlag]) (hd : IsDr D dr ts hs Cd T Hs) (hr : rmOk R 6 1 6) : CtT l mDa_knownTool none D R [.ref a, .int i] [sDa a pl w un fe dr f, Cd] (fun v S => ∃ t, ixo ts i = some t ∧ v = some (.ref t.1) ∧ S = [sDa a pl w un fe dr f, Cd]) (fun cc S => cc = 12 ∧ ixo ts i = none ∧ S = [sDa a pl w un fe dr f, Cd]) := by
  obtain ⟨r1, r2, r3, r4⟩ := hr
  obtain ⟨ta, ha, ft, fh, eCd, -, -, -, -, h3, h4⟩ := id hd
  refine CtT.of rfl (by decide) tkDa_knownTool (Nat.le_of_ble_eq_true rfl) (fun A => ?_)
  refine Ex.p rfl ?_
  refine Ex.gf 0 0 rfl rfl rfl ?_
  refine Ex.p rfl ?_
  refine Ex.cv (Mc := mDr_toolAt) (Rc := rm 0 0 0) (As := [.int i]) (rest := []) (Sr := [sDa a pl w un fe dr f]) (ic := 1) (jc := 0) (ci := 1) [1] [0] (ct_Dr_toolAt hd) rfl lk_0_202 lcDr_toolAt rfl rfl rfl rfl rfl (by decide) rfl (by rw [eCd]; rfl) rfl (by decide) ⟨by dsimp only [rm]; omega, by show 8 + (2 + 11) + 0 ≤ R.locals; omega⟩ (Nat.le_of_ble_eq_true rfl) (by dsimp only [rm]; omega) (by dsimp only [rm]; omega) ?_
  rintro v S1 ⟨rfl, rfl⟩
  cases hi : ixo ts i with
  | none =>
    refine Ex.p rfl ?_
    refine Ex.p rfl ?_
    refine Ex.nnN rfl ?_
    refine Ex.thr hfl rfl rfl rfl rfl rfl rfl rfl thrIO (by decide +kernel) lcDa_knownTool.1.2.1 (by dsimp only [rm]; omega) (by dsimp only [rm]; omega) (by dsimp only [rm]; omega) (by dsimp only [rm]; omega) (by omega) (by simp [Value.category]; omega) ?_
    exact ⟨rfl, rfl, rfl⟩
  | some t =>
    refine Ex.p rfl ?_
    refine Ex.p rfl ?_
    refine Ex.nnR rfl rfl ?_
    refine Ex.p rfl ?_
    exact Ex.rt (Ex.aret rfl rfl (Or.inr ⟨_, rfl⟩) (Nat.zero_le _) (Nat.zero_le _) rfl ⟨t, rfl, rfl, rfl⟩)
theorem ct_Da_knownFile {a pl w un fe dr f : Nat} {i : Int32} {fs : List FV} {Cs F : va_W} (hfl : l.flags = pinnedFlags ++ [noTraceFlag]) (hf : IsFs D f fs Cs F) (hr : rmOk R 6 1 6) : CtT l mDa_knownFile none D R [.ref a, .int i] [sDa a pl w un fe dr f, Cs] (fun v S => ∃ t, ixo fs i = some t ∧ v = some (.ref t.1) ∧ S = [sDa a pl w un fe dr f, Cs]) (fun cc S => cc = 12 ∧ ixo fs i = none ∧ S = [sDa a pl w un fe dr f, Cs]) := by
  obtain ⟨r1, r2, r3, r4⟩ := hr
  obtain ⟨fa, ff, eCs, -⟩ := id hf
  refine CtT.of rfl (by decide) tkDa_knownFile (Nat.le_of_ble_eq_true rfl) (fun A => ?_)
  refine Ex.p rfl ?_
  refine Ex.gf 0 0 rfl rfl rfl ?_
  refine Ex.p rfl ?_
  refine Ex.cv (Mc := mFs_fileAt) (Rc := rm 0 0 0) (As := [.int i]) (rest := []) (Sr := [sDa a pl w un fe dr f]) (ic := 1) (jc := 0) (ci := 2) [1] [0] (ct_Fs_fileAt hf) rfl lk_0_207 lcFs_fileAt rfl rfl rfl rfl rfl (by decide) rfl (by rw [eCs]; rfl) rfl (by decide) ⟨by dsimp only [rm]; omega, by show 8 + (2 + 11) + 0 ≤ R.locals; omega⟩ (Nat.le_of_ble_eq_true rfl) (by dsimp only [rm]; omega) (by dsimp only [rm]; omega) ?_
  rintro v S1 ⟨rfl, rfl⟩
  cases hi : ixo fs i with
  | none =>
    refine Ex.p rfl ?_
    refine Ex.p rfl ?_
    refine Ex.nnN rfl ?_
    refine Ex.thr hfl rfl rfl rfl rfl rfl rfl rfl thrIO (by decide +kernel) lcDa_knownFile.1.2.1 (by dsimp only [rm]; omega) (by dsimp only [rm]; omega) (by dsimp only [rm]; omega) (by dsimp only [rm]; omega) (by omega) (by simp [Value.category]; omega) ?_
    exact ⟨rfl, rfl, rfl⟩
  | some t =>
    refine Ex.p rfl ?_
    refine Ex.p rfl ?_
    refine Ex.nnR rfl rfl ?_
    refine Ex.p rfl ?_
    exact Ex.rt (Ex.aret rfl rfl (Or.inr ⟨_, rfl⟩) (Nat.zero_le _) (Nat.zero_le _) rfl ⟨t, rfl, rfl, rfl⟩)
end DA0
end
section
/-! DrillArchive: what its calls answer; tool, file, archive, feed, unit -/
abbrev AR : Type := (Nat ⊕ Value) × SD
def QR (D : xD) (a : Nat) (r : AR) (v : Option Value) (S : List va_W) : Prop := ∃ x, r.1 = .inr x ∧ v = some x ∧ IsDa D a r.2 S
def ER (D : xD) (a : Nat) (f : Nat → Nat) (r : AR) (cc : Nat) (S : List va_W) : Prop := ∃ k, r.1 = .inl k ∧ cc = f k ∧ IsDa D a r.2 S
def aTool (z : SD) (d : Int64) (p : Bool) : AR := if 1 ≤ d.toInt ∧ d.toInt ≤ 10000 then (if z.1.length < 10 then (.inr (.int (nI z.1.length)), z.1 ++ [(d.toInt32, p)], z.2) else (.inr (.int (-1)), z)) else (.inl 1, z)
def fhas (fl : List (Nat × List Nat)) (ro : Nat) : Bool := fl.any (fun x => x.1 == ro)
def aFile (z : SD) (ro : Int32) : AR := if 0 ≤ ro.toInt ∧ ro.toInt ≤ 7 then (if fhas z.2.2.2.2 ro.toInt.toNat = false ∧ z.2.2.2.2.length < 8 then (.inr (.int (nI z.2.2.2.2.length)), z.1, z.2.1, z.2.2.1, z.2.2.2.1, z.2.2.2.2 ++ [(ro.toInt.toNat, [])]) else (.inr (.int (-1)), z)) else (.inl 1, z)
def fallB (fl : List (Nat × List Nat)) : List Nat := fl.flatMap (fun x => fbytes x.1 x.2)
def aArch (z : SD) (i : Int32) : AR := if 0 ≤ i.toInt then (.inr (.int (bat (z.2.2.2.2.length :: fallB z.2.2.2.2) i.toInt.toNat)), z) else (.inl 1, z)
def aFeed (z : SD) (b : Int32) : AR := if (0 ≤ b.toInt ∧ b.toInt < 256) ∧ z.2.2.2.1.length < 2600 then (.inr (.int 1), z.1, z.2.1, z.2.2.1, z.2.2.2.1 ++ [b.toInt.toNat], z.2.2.2.2) else (.inr (.int 0), z)
def aUnit (z : SD) (u : Int32) : AR := if (u.toInt = 10 ∨ (32 ≤ u.toInt ∧ u.toInt ≤ 126)) ∧ z.2.2.1.length < 2000 then (.inr (.int 1), z.1, z.2.1, z.2.2.1 ++ [u], z.2.2.2) else (.inr (.int 0), z)
theorem nI_nat {x : Int32} (h : 0 ≤ x.toInt) : nI x.toInt.toNat = x := by
  apply Int32.toInt_inj.mp
  rw [nI_toInt (by have := Int32.toInt_lt x; omega)]
  omega
theorem fwith_no {fs : List FV} {ro : Nat} : fwith fs ro = none ↔ fhas (fs.map frb) ro = false := by
  unfold fwith fhas
  rw [List.find?_eq_none, List.any_map]
  simp
theorem fall_eq {fs : List FV} : fall fs = fallB (fs.map frb) := by
  unfold fall fallB
  rw [List.flatMap_map]
section DA1
variable {l : Launch} {D : xD} {R : Room}
theorem ct_Da_tool {a : Nat} {z : SD} {d : Int64} {p : Bool} {S : List va_W} (hfg : l.flags = pinnedFlags ++ [noTraceFlag]) (h : IsDa D a z S) (hr : rmOk R 6 5 28) : CtT l mDa_tool none D R [.ref a, .long d, .int (b32 p)] S (QR D a (aTool z d p)) (ER D a (fun _ => 11) (aTool z d p)) := by
  have hfl := hfg
  obtain ⟨r1, r2, r3, r4⟩ := hr
  have hz := id h
  obtain ⟨pl, w, un, fe, dr, f, r, kp, kf, kt, c0, c1, c2, xs, ts, hs, fs, Cp, Co, Cu, Cf, Cd, T, Cs, F, rfl, hpl, ho, hk, hu, hfe, hb, hd, hok, hv, htv, hhv, hfs, hff⟩ := h
  obtain ⟨ta, ha, ft, fh, eCd, -, -, -, -, h3, h4⟩ := id hd
  have hlen : z.1.length = ts.length := by rw [← htv, List.length_map]
  generalize hP : aTool z d p = P
  unfold aTool at hP
  refine CtT.of rfl (by decide) tkDa_tool (Nat.le_of_ble_eq_true rfl) (fun A => ?_)
  refine Ex.p rfl ?_
  refine Ex.cs0 (Mc := mDa_isDiameter) (Rc := rm 0 0 0) (As := [.long d]) (rest := []) (ct_isDiameter) rfl lk_0_51 lcDa_isDiameter rfl ⟨by dsimp only [rm]; omega, by show 8 + (2 + 11) + 0 ≤ R.locals; omega⟩ (Nat.le_of_ble_eq_true rfl) (by dsimp only [rm]; omega) (by dsimp only [rm]; omega) ?_
  rintro v S1 ⟨rfl, rfl⟩
  by_cases g1 : 1 ≤ d.toInt ∧ d.toInt ≤ 10000
  · rw [decide_eq_true g1]
    rw [if_pos g1] at hP
    refine Ex.br rfl (fun _ => ?_) (fun c => absurd (show (1 : Int32) ≠ 0 by decide) c)
    refine Ex.p rfl ?_
    refine Ex.gf 0 0 rfl rfl rfl ?_
    refine Ex.cv (Mc := mTw_forget) (Rc := rm 0 0 0) (As := []) (rest := []) (Sr := [sDa a pl w un fe dr f, Cp, Co, Cu, Cf, Cd, T, sHs hs, Cs, F]) (ic := 2) (jc := 0) (ci := 8) [2] [0, 1, 3, 4, 5, 6, 7, 8, 9, 10] (ct_Tw_forget) rfl lk_0_62 lcTw_forget rfl rfl rfl rfl rfl (by decide) rfl rfl rfl (by decide) ⟨by dsimp only [rm]; omega, by show 8 + (1 + 11) + 0 ≤ R.locals; omega⟩ (Nat.le_of_ble_eq_true rfl) (by dsimp only [rm]; omega) (by dsimp only [rm]; omega) ?_
    rintro v S1 ⟨rfl, rfl⟩
    refine Ex.sub (S' := [sDa a pl w un fe dr f, Cp, sTw w pl r false kf kt, Co, Cu, Cf, Cd, T, sHs hs, Cs, F]) [0, 1, 10, 2, 3, 4, 5, 6, 7, 8, 9] rfl rfl ?_
    refine Ex.p rfl ?_
    refine Ex.gf 0 0 rfl rfl rfl ?_
    refine Ex.p rfl ?_
    refine Ex.p rfl ?_
    refine Ex.p rfl ?_
    refine Ex.cv (Mc := mDr_addTool) (Rc := rm 3 5 28) (As := [.int d.toInt32, .int (b32 p)]) (rest := []) (Sr := [sDa a pl w un fe dr f, Cp, sTw w pl r false kf kt, Co, Cu, Cf, sHs hs, Cs, F]) (ic := 6) (jc := 0) (ci := 1) [6, 7] [0, 1, 2, 3, 4, 5, 8, 9, 10] (ct_Dr_addTool hd (rm_ok _ _ _)) rfl lk_0_65 lcDr_addTool rfl rfl rfl rfl rfl (by decide) rfl (by rw [eCd]; rfl) rfl (by decide) ⟨by dsimp only [rm]; omega, by show 8 + (3 + 11) + 120 ≤ R.locals; omega⟩ (Nat.le_of_ble_eq_true rfl) (by dsimp only [rm]; omega) (by dsimp only [rm]; omega) ?_
    rintro v S1 h9
    rcases h9 with ⟨h10, rfl, rfl⟩ | ⟨h10, rfl, Cd', T', q, rfl, hd'⟩
    · rw [if_neg (by omega)] at hP
      refine Ex.sub (S' := [sDa a pl w un fe dr f, Cp, sTw w pl r false kf kt, Co, Cu, Cf, Cd, T, sHs hs, Cs, F]) [0, 1, 2, 3, 4, 5, 9, 10, 6, 7, 8] rfl rfl ?_
      refine Ex.rt (Ex.iret rfl rfl (by dsimp only [rm]; omega) (by dsimp only [rm]; omega) rfl ?_)
      subst hP
      exact ⟨_, rfl, rfl, pl, w, un, fe, dr, f, r, false, kf, kt, c0, c1, c2, xs, ts, hs, fs, Cp, Co, Cu, Cf, Cd, T, Cs, F, rfl, hpl, ho, (fun c => by cases c), hu, hfe, hb, hd, hok, hv, htv, hhv, hfs, hff⟩
    · rw [if_pos (by omega)] at hP
      refine Ex.sub (S' := [sDa a pl w un fe dr f, Cp, sTw w pl r false kf kt, Co, Cu, Cf, Cd', T', sHs hs, Cs, F]) [0, 1, 2, 3, 4, 5, 9, 10, 6, 7, 8] rfl rfl ?_
      refine Ex.rt (Ex.iret rfl rfl (by dsimp only [rm]; omega) (by dsimp only [rm]; omega) rfl ?_)
      subst hP
      have ht9 : tvOK (d.toInt32, p) := by
        have e9 : d.toInt32.toInt = d.toInt := by
          rw [Int64.toInt_toInt32]
          exact Int.bmod_eq_of_le (by omega) (by omega)
        show 1 ≤ d.toInt32.toInt ∧ d.toInt32.toInt ≤ 10000
        omega
      exact ⟨_, rfl, by rw [hlen], pl, w, un, fe, dr, f, r, false, kf, kt, c0, c1, c2, xs, _, hs, fs, Cp, Co, Cu, Cf, Cd', T', Cs, F, rfl, hpl, ho, (fun c => by cases c), hu, hfe, hb, hd', hok.tool hv (by omega) ht9, hv.more (by simp), (by rw [List.map_append, htv]; rfl), hhv, hfs, hff⟩
  · rw [decide_eq_false g1]
    rw [if_neg g1] at hP
    refine Ex.br rfl (fun c => absurd rfl c) (fun _ => ?_)
    refine Ex.thr hfl rfl rfl rfl rfl rfl rfl rfl thrIA (by decide +kernel) lcDa_tool.1.2.1 (by first | omega | (dsimp only [rm]; omega)) (by first | omega | (dsimp only [rm]; omega)) (by first | omega | (dsimp only [rm]; omega)) (by first | omega | (dsimp only [rm]; omega)) (by omega) (by simp [Value.category]; omega) ?_
    subst hP
    exact ⟨1, rfl, rfl, hz⟩
theorem ct_Da_file {a : Nat} {z : SD} {ro : Int32} {S : List va_W} (hfl : l.flags = pinnedFlags ++ [noTraceFlag]) (h : IsDa D a z S) (hr : rmOk R 6 3 14) : CtT l mDa_file none D R [.ref a, .int ro] S (QR D a (aFile z ro)) (ER D a (fun _ => 11) (aFile z ro)) := by
  obtain ⟨r1, r2, r3, r4⟩ := hr
  have hz := id h
  obtain ⟨pl, w, un, fe, dr, f, r, kp, kf, kt, c0, c1, c2, xs, ts, hs, fs, Cp, Co, Cu, Cf, Cd, T, Cs, F, rfl, hpl, ho, hk, hu, hfe, hb, hd, hok, hv, htv, hhv, hfs, hff⟩ := h
  obtain ⟨fa, ffn, eCs, -, -, hl8⟩ := id hfs
  have hlen : z.2.2.2.2.length = fs.length := by rw [← hff, List.length_map]
  generalize hP : aFile z ro = P
  unfold aFile at hP
  refine CtT.of rfl (by decide) tkDa_file (Nat.le_of_ble_eq_true rfl) (fun A => ?_)
  refine Ex.p rfl ?_
  refine Ex.cs0 (Mc := mDa_isRole) (Rc := rm 0 0 0) (As := [.int ro]) (rest := []) (ct_isRole) rfl lk_0_157 lcDa_isRole rfl ⟨by dsimp only [rm]; omega, by show 8 + (1 + 11) + 0 ≤ R.locals; omega⟩ (Nat.le_of_ble_eq_true rfl) (by dsimp only [rm]; omega) (by dsimp only [rm]; omega) ?_
  rintro v S1 ⟨rfl, rfl⟩
  by_cases g1 : 0 ≤ ro.toInt ∧ ro.toInt ≤ 7
  · rw [decide_eq_true g1]
    rw [if_pos g1] at hP
    have ero := nI_nat g1.1
    generalize hro : ro.toInt.toNat = rn at hP ero
    subst ero
    refine Ex.br rfl (fun _ => ?_) (fun c => absurd (show (1 : Int32) ≠ 0 by decide) c)
    refine Ex.p rfl ?_
    refine Ex.gf 0 0 rfl rfl rfl ?_
    refine Ex.p rfl ?_
    refine Ex.cv (Mc := mFs_add) (Rc := rm 3 3 14) (As := [.int (nI rn)]) (rest := []) (Sr := [sDa a pl w un fe dr f, Cp, sTw w pl r kp kf kt, Co, Cu, Cf, Cd, T, sHs hs]) (ic := 9) (jc := 0) (ci := 2) [9, 10] [0, 1, 2, 3, 4, 5, 6, 7, 8] (ct_Fs_add hfs (by omega) (rm_ok _ _ _)) rfl lk_0_162 lcFs_add rfl rfl rfl rfl rfl (by decide) rfl (by rw [eCs]; rfl) rfl (by decide) ⟨by dsimp only [rm]; omega, by show 8 + (2 + 11) + 120 ≤ R.locals; omega⟩ (Nat.le_of_ble_eq_true rfl) (by dsimp only [rm]; omega) (by dsimp only [rm]; omega) ?_
    rintro v S1 h9
    rcases h9 with ⟨h10, rfl, rfl⟩ | ⟨h10, h11, h12, rfl, q, Cs', F', rfl, hfs'⟩
    · rw [if_neg (fun g => by
        rw [← hff, ← fwith_no, List.length_map] at g
        rcases h10 with h10 | h10 | h10
        · omega
        · exact h10 g.1
        · omega)] at hP
      refine Ex.sub (S' := [sDa a pl w un fe dr f, Cp, sTw w pl r kp kf kt, Co, Cu, Cf, Cd, T, sHs hs, Cs, F]) [0, 1, 2, 3, 4, 5, 6, 7, 8, 9, 10] rfl rfl ?_
      refine Ex.rt (Ex.iret rfl rfl (by dsimp only [rm]; omega) (by dsimp only [rm]; omega) rfl ?_)
      subst hP
      exact ⟨_, rfl, rfl, hz⟩
    · rw [if_pos ⟨by rw [← hff, ← fwith_no]; exact h11, by omega⟩] at hP
      refine Ex.sub (S' := [sDa a pl w un fe dr f, Cp, sTw w pl r kp kf kt, Co, Cu, Cf, Cd, T, sHs hs, Cs', F']) [0, 1, 2, 3, 4, 5, 6, 7, 8, 9, 10] rfl rfl ?_
      refine Ex.rt (Ex.iret rfl rfl (by dsimp only [rm]; omega) (by dsimp only [rm]; omega) rfl ?_)
      subst hP
      exact ⟨_, rfl, by rw [hlen], pl, w, un, fe, dr, f, r, kp, kf, kt, c0, c1, c2, xs, ts, hs, _, Cp, Co, Cu, Cf, Cd, T, Cs', F', rfl, hpl, ho, hk, hu, hfe, hb, hd, hok, hv, htv, hhv, hfs', (by rw [List.map_append, hff]; rfl)⟩
  · rw [decide_eq_false g1]
    rw [if_neg g1] at hP
    refine Ex.br rfl (fun c => absurd rfl c) (fun _ => ?_)
    refine Ex.thr hfl rfl rfl rfl rfl rfl rfl rfl thrIA (by decide +kernel) lcDa_file.1.2.1 (by first | omega | (dsimp only [rm]; omega)) (by first | omega | (dsimp only [rm]; omega)) (by first | omega | (dsimp only [rm]; omega)) (by first | omega | (dsimp only [rm]; omega)) (by omega) (by simp [Value.category]; omega) ?_
    subst hP
    exact ⟨1, rfl, rfl, hz⟩
theorem ct_Da_archive {a : Nat} {z : SD} {i : Int32} {S : List va_W} (hfl : l.flags = pinnedFlags ++ [noTraceFlag]) (h : IsDa D a z S) (hr : rmOk R 6 1 6) : CtT l mDa_archive none D R [.ref a, .int i] S (QR D a (aArch z i)) (ER D a (fun _ => 12) (aArch z i)) := by
  obtain ⟨r1, r2, r3, r4⟩ := hr
  have hz := id h
  obtain ⟨pl, w, un, fe, dr, f, r, kp, kf, kt, c0, c1, c2, xs, ts, hs, fs, Cp, Co, Cu, Cf, Cd, T, Cs, F, rfl, hpl, ho, hk, hu, hfe, hb, hd, hok, hv, htv, hhv, hfs, hff⟩ := h
  obtain ⟨fa, ffn, eCs, -, -, hl8⟩ := id hfs
  generalize hP : aArch z i = P
  unfold aArch at hP
  refine CtT.of rfl (by decide) tkDa_archive (Nat.le_of_ble_eq_true rfl) (fun A => ?_)
  refine Ex.p rfl ?_
  refine Ex.br rfl (fun c => ?_) (fun c => ?_)
  · have c : 0 ≤ i := c
    rw [Int32.le_iff_toInt_le] at c
    have c : 0 ≤ i.toInt := c
    rw [if_pos c] at hP
    have ei := nI_nat c
    have hi31 := Int32.toInt_lt i
    generalize hin : i.toInt.toNat = jn at hP ei
    have hj31 : jn < 2 ^ 31 := by omega
    subst ei
    refine Ex.p rfl ?_
    refine Ex.gf 0 0 rfl rfl rfl ?_
    refine Ex.p rfl ?_
    refine Ex.cv (Mc := mFs_joined) (Rc := rm 2 0 0) (As := [.int (nI jn)]) (rest := []) (Sr := [sDa a pl w un fe dr f, Cp, sTw w pl r kp kf kt, Co, Cu, Cf, Cd, T, sHs hs]) (ic := 9) (jc := 0) (ci := 2) [9, 10] [0, 1, 2, 3, 4, 5, 6, 7, 8] (ct_Fs_joined hfs hj31 (rm_ok _ _ _)) rfl lk_0_179 lcFs_joined rfl rfl rfl rfl rfl (by decide) rfl (by rw [eCs]; rfl) rfl (by decide) ⟨by dsimp only [rm]; omega, by show 8 + (5 + 11) + 80 ≤ R.locals; omega⟩ (Nat.le_of_ble_eq_true rfl) (by dsimp only [rm]; omega) (by dsimp only [rm]; omega) ?_
    rintro v S1 ⟨rfl, rfl⟩
    refine Ex.sub (S' := [sDa a pl w un fe dr f, Cp, sTw w pl r kp kf kt, Co, Cu, Cf, Cd, T, sHs hs, Cs, F]) [0, 1, 2, 3, 4, 5, 6, 7, 8, 9, 10] rfl rfl ?_
    refine Ex.rt (Ex.iret rfl rfl (by dsimp only [rm]; omega) (by dsimp only [rm]; omega) rfl ?_)
    subst hP
    exact ⟨_, rfl, by rw [← hff, fall_eq, List.length_map], hz⟩
  · have c : ¬ 0 ≤ i := c
    rw [Int32.le_iff_toInt_le] at c
    have c : ¬ 0 ≤ i.toInt := c
    rw [if_neg c] at hP
    refine Ex.thr hfl rfl rfl rfl rfl rfl rfl rfl thrIO (by decide +kernel) lcDa_archive.1.2.1 (by first | omega | (dsimp only [rm]; omega)) (by first | omega | (dsimp only [rm]; omega)) (by first | omega | (dsimp only [rm]; omega)) (by first | omega | (dsimp only [rm]; omega)) (by omega) (by simp [Value.category]; omega) ?_
    subst hP
    exact ⟨1, rfl, rfl, hz⟩
theorem ct_Da_feed {a : Nat} {z : SD} {b : Int32} {S : List va_W} (h : IsDa D a z S) (hr : rmOk R 3 1 5200) : Ct l mDa_feed D R [.ref a, .int b] S (QR D a (aFeed z b)) := by
  obtain ⟨r1, r2, r3, r4⟩ := hr
  have hz := id h
  obtain ⟨pl, w, un, fe, dr, f, r, kp, kf, kt, c0, c1, c2, xs, ts, hs, fs, Cp, Co, Cu, Cf, Cd, T, Cs, F, rfl, hpl, ho, hk, hu, hfe, hb, hd, hok, hv, htv, hhv, hfs, hff⟩ := h
  obtain ⟨arr, fx, eCf, x1, x2, x3, x4, x5, x6⟩ := id hfe
  have hll : (z.2.2.2.1.map nI).length = z.2.2.2.1.length := List.length_map ..
  generalize hP : aFeed z b = P
  unfold aFeed at hP
  refine Ct.of rfl (by decide) tkDa_feed (Nat.le_of_ble_eq_true rfl) (fun A => ?_)
  refine Ex.p rfl ?_
  refine Ex.cs0 (Mc := mDa_isByte) (Rc := rm 0 0 0) (As := [.int b]) (rest := []) (ct_isByte) rfl lk_0_169 lcDa_isByte rfl ⟨by dsimp only [rm]; omega, by show 8 + (1 + 11) + 0 ≤ R.locals; omega⟩ (Nat.le_of_ble_eq_true rfl) (by dsimp only [rm]; omega) (by dsimp only [rm]; omega) ?_
  rintro v S1 ⟨rfl, rfl⟩
  by_cases g1 : 0 ≤ b.toInt ∧ b.toInt < 256
  · rw [decide_eq_true g1]
    refine Ex.br rfl (fun c => absurd c (show (1 : Int32) ≠ 0 by decide)) (fun _ => ?_)
    refine Ex.p rfl ?_
    refine Ex.gf 0 0 rfl rfl rfl ?_
    refine Ex.p rfl ?_
    refine Ex.cv (Mc := mRo_push) (Rc := rm 2 1 5200) (As := [.int b]) (rest := []) (Sr := [sDa a pl w un fe dr f, Cp, sTw w pl r kp kf kt, Co, Cu, Cd, T, sHs hs, Cs, F]) (ic := 5) (jc := 0) (ci := 5) [5] [0, 1, 2, 3, 4, 6, 7, 8, 9, 10] (ct_Ro_push hfe (by dsimp only [rm]; omega) (by dsimp only [rm]; omega) (Or.inr (Or.inr ⟨by dsimp only [rm]; omega, by dsimp only [rm]; omega⟩))) rfl lk_0_109 lcRo_push rfl rfl rfl rfl rfl (by decide) rfl (by rw [eCf]; rfl) rfl (by decide) ⟨by dsimp only [rm]; omega, by show 8 + (2 + 11) + 80 ≤ R.locals; omega⟩ (Nat.le_of_ble_eq_true rfl) (by dsimp only [rm]; omega) (by dsimp only [rm]; omega) ?_
    rintro v S1 h9
    rcases h9 with ⟨h10, rfl, C', rfl, hfe'⟩ | ⟨h10, rfl, rfl⟩
    · rw [if_pos ⟨g1, by omega⟩] at hP
      refine Ex.sub (S' := [sDa a pl w un fe dr f, Cp, sTw w pl r kp kf kt, Co, Cu, C', Cd, T, sHs hs, Cs, F]) [0, 1, 2, 3, 4, 10, 5, 6, 7, 8, 9] rfl rfl ?_
      refine Ex.br rfl (fun c => absurd c (show (1 : Int32) ≠ 0 by decide)) (fun _ => ?_)
      refine Ex.p rfl ?_
      refine Ex.p rfl ?_
      refine Ex.zret rfl rfl (Or.inr rfl) (by dsimp only [rm]; omega) (by dsimp only [rm]; omega) rfl ?_
      subst hP
      exact ⟨_, rfl, rfl, pl, w, un, fe, dr, f, r, kp, kf, kt, c0, c1, _, xs, ts, hs, fs, Cp, Co, Cu, C', Cd, T, Cs, F, rfl, hpl, ho, hk, hu, (by rw [List.map_append, List.map_singleton, nI_nat g1.1]; exact hfe'), (fun q hq => by
        rcases List.mem_append.mp hq with hq | hq
        · exact hb q hq
        · rw [List.mem_singleton.mp hq]; omega), hd, hok, hv, htv, hhv, hfs, hff⟩
    · rw [if_neg (by omega)] at hP
      refine Ex.sub (S' := [sDa a pl w un fe dr f, Cp, sTw w pl r kp kf kt, Co, Cu, Cf, Cd, T, sHs hs, Cs, F]) [0, 1, 2, 3, 4, 10, 5, 6, 7, 8, 9] rfl rfl ?_
      refine Ex.br rfl (fun _ => ?_) (fun c => absurd rfl c)
      refine Ex.p rfl ?_
      refine Ex.zret rfl rfl (Or.inl rfl) (by dsimp only [rm]; omega) (by dsimp only [rm]; omega) rfl ?_
      subst hP
      exact ⟨_, rfl, rfl, hz⟩
  · rw [decide_eq_false g1]
    rw [if_neg (fun q => g1 q.1)] at hP
    refine Ex.br rfl (fun _ => ?_) (fun c => absurd rfl c)
    refine Ex.p rfl ?_
    refine Ex.zret rfl rfl (Or.inl rfl) (Nat.zero_le _) (Nat.zero_le _) rfl ?_
    subst hP
    exact ⟨_, rfl, rfl, hz⟩
theorem ct_Da_unit {a : Nat} {z : SD} {u : Int32} {S : List va_W} (h : IsDa D a z S) (hr : rmOk R 3 1 4000) : Ct l mDa_unit D R [.ref a, .int u] S (QR D a (aUnit z u)) := by
  obtain ⟨r1, r2, r3, r4⟩ := hr
  have hz := id h
  obtain ⟨pl, w, un, fe, dr, f, r, kp, kf, kt, c0, c1, c2, xs, ts, hs, fs, Cp, Co, Cu, Cf, Cd, T, Cs, F, rfl, hpl, ho, hk, hu, hfe, hb, hd, hok, hv, htv, hhv, hfs, hff⟩ := h
  obtain ⟨arr, fx, eCu, x1, x2, x3, x4, x5, x6⟩ := id hu
  generalize hP : aUnit z u = P
  unfold aUnit at hP
  refine Ct.of rfl (by decide) tkDa_unit (Nat.le_of_ble_eq_true rfl) (fun A => ?_)
  have s22 : ∀ (b : Bool), (b = true ↔ (u.toInt = 10 ∨ (32 ≤ u.toInt ∧ u.toInt ≤ 126))) → Ex l mDa_unit D R A (xQ D A (QR D a P)) R.cells R.slots 23 [(0, .ref a), (1, .int u)] [.int (b32 b)] [sDa a pl w un fe dr f, Cp, sTw w pl r kp kf kt, Co, Cu, Cf, Cd, T, sHs hs, Cs, F] 0 0 := by
    intro b hb9
    refine Ex.p rfl ?_
    refine Ex.p rfl ?_
    cases b with
    | false =>
      rw [if_neg (fun q => by have := hb9.mpr q.1; cases this)] at hP
      refine Ex.br rfl (fun _ => ?_) (fun c => absurd rfl c)
      refine Ex.p rfl ?_
      refine Ex.zret rfl rfl (Or.inl rfl) (Nat.zero_le _) (Nat.zero_le _) rfl ?_
      subst hP
      exact ⟨_, rfl, rfl, hz⟩
    | true =>
      have g1 := hb9.mp rfl
      refine Ex.br rfl (fun c => absurd c (show (1 : Int32) ≠ 0 by decide)) (fun _ => ?_)
      refine Ex.p rfl ?_
      refine Ex.gf 0 0 rfl rfl rfl ?_
      refine Ex.p rfl ?_
      refine Ex.cv (Mc := mRo_push) (Rc := rm 2 1 4000) (As := [.int u]) (rest := []) (Sr := [sDa a pl w un fe dr f, Cp, sTw w pl r kp kf kt, Co, Cf, Cd, T, sHs hs, Cs, F]) (ic := 4) (jc := 0) (ci := 5) [4] [0, 1, 2, 3, 5, 6, 7, 8, 9, 10] (ct_Ro_push hu (by dsimp only [rm]; omega) (by dsimp only [rm]; omega) (Or.inr (Or.inr ⟨by dsimp only [rm]; omega, by dsimp only [rm]; omega⟩))) rfl lk_0_109 lcRo_push rfl rfl rfl rfl rfl (by decide) rfl (by rw [eCu]; rfl) rfl (by decide) ⟨by dsimp only [rm]; omega, by show 8 + (2 + 11) + 80 ≤ R.locals; omega⟩ (Nat.le_of_ble_eq_true rfl) (by dsimp only [rm]; omega) (by dsimp only [rm]; omega) ?_
      rintro v S1 h9
      rcases h9 with ⟨h10, rfl, C', rfl, hu'⟩ | ⟨h10, rfl, rfl⟩
      · rw [if_pos ⟨g1, by omega⟩] at hP
        refine Ex.sub (S' := [sDa a pl w un fe dr f, Cp, sTw w pl r kp kf kt, Co, C', Cf, Cd, T, sHs hs, Cs, F]) [0, 1, 2, 3, 10, 4, 5, 6, 7, 8, 9] rfl rfl ?_
        refine Ex.br rfl (fun c => absurd c (show (1 : Int32) ≠ 0 by decide)) (fun _ => ?_)
        refine Ex.p rfl ?_
        refine Ex.p rfl ?_
        refine Ex.zret rfl rfl (Or.inr rfl) (by dsimp only [rm]; omega) (by dsimp only [rm]; omega) rfl ?_
        subst hP
        exact ⟨_, rfl, rfl, pl, w, un, fe, dr, f, r, kp, kf, kt, c0, _, c2, xs, ts, hs, fs, Cp, Co, C', Cf, Cd, T, Cs, F, rfl, hpl, ho, hk, hu', hfe, hb, hd, hok, hv, htv, hhv, hfs, hff⟩
      · rw [if_neg (by omega)] at hP
        refine Ex.sub (S' := [sDa a pl w un fe dr f, Cp, sTw w pl r kp kf kt, Co, Cu, Cf, Cd, T, sHs hs, Cs, F]) [0, 1, 2, 3, 10, 4, 5, 6, 7, 8, 9] rfl rfl ?_
        refine Ex.br rfl (fun _ => ?_) (fun c => absurd rfl c)
        refine Ex.p rfl ?_
        refine Ex.zret rfl rfl (Or.inl rfl) (by dsimp only [rm]; omega) (by dsimp only [rm]; omega) rfl ?_
        subst hP
        exact ⟨_, rfl, rfl, hz⟩
  refine Ex.p rfl ?_
  refine Ex.p rfl ?_
  refine Ex.br rfl (fun c => ?_) (fun c => ?_)
  · have c : u = 10 := c
    refine Ex.p rfl ?_
    refine Ex.p rfl ?_
    exact s22 true ⟨fun _ => Or.inl (by rw [c]; rfl), fun _ => rfl⟩
  · have c : ¬ u = 10 := c
    have c0 : ¬ u.toInt = 10 := fun q => c (Int32.toInt_inj.mp q)
    refine Ex.p rfl ?_
    refine Ex.p rfl ?_
    refine Ex.br rfl (fun c1 => ?_) (fun c1 => ?_)
    · have c1 : u < 32 := c1
      rw [Int32.lt_iff_toInt_lt] at c1
      have c1 : u.toInt < 32 := c1
      refine Ex.p rfl ?_
      exact s22 false ⟨(fun q => by cases q), (fun q => by omega)⟩
    · have c1 : ¬ u < 32 := c1
      rw [Int32.lt_iff_toInt_lt] at c1
      have c1 : ¬ u.toInt < 32 := c1
      refine Ex.p rfl ?_
      refine Ex.p rfl ?_
      refine Ex.br rfl (fun c2 => ?_) (fun c2 => ?_)
      · have c2 : 126 < u := c2
        rw [Int32.lt_iff_toInt_lt] at c2
        have c2 : 126 < u.toInt := c2
        refine Ex.p rfl ?_
        exact s22 false ⟨(fun q => by cases q), (fun q => by omega)⟩
      · have c2 : ¬ 126 < u := c2
        rw [Int32.lt_iff_toInt_lt] at c2
        have c2 : ¬ 126 < u.toInt := c2
        refine Ex.p rfl ?_
        refine Ex.p rfl ?_
        exact s22 true ⟨fun _ => Or.inr ⟨by omega, by omega⟩, fun _ => rfl⟩
end DA1
end
section
/-! DrillArchive: hole, slot -/
theorem Et.sub {l : Launch} {M : xM} {D : xD} {R : Room} {A : Nat → Prop} {Q : Array Value → State → Outcome → State → Prop} {mc ms pc k n x cc : Nat} {lv : List (Nat × Value)} {st : List Value} {S S' : List va_W} (is : List Nat) (hp : pk S is S') (hn : va_nd is = true) (kk : Et l M D R A Q mc ms pc lv st S' k n x cc) : Et l M D R A Q mc ms pc lv st S k n x cc := by
  intro p e s m args below meth c H locs ls cell F hS hP hD hl
  rw [va_P_iff] at hP
  rw [va_D_iff] at hD
  exact kk p e s m args below meth c H locs ls cell F hS (va_P_iff.mpr fun q hq => hP q (hp.sub hq)) (va_D_iff.mpr ⟨sg_iff.mpr (hp.sg hn (sg_iff.mp hD.1)), fun q hq => hD.2 q (hp.sub hq)⟩) hl
theorem ixo_some {α : Type} {xs : List α} {i : Int32} {t : α} (h : ixo xs i = some t) : (0 ≤ i.toInt ∧ i.toInt < xs.length) ∧ xs[i.toInt.toNat]? = some t := by
  unfold ixo at h
  split at h
  · rename_i c
    have := (List.getElem?_eq_some_iff.mp h).1
    exact ⟨⟨c, by omega⟩, h⟩
  · cases h
theorem ixo_no {α : Type} {xs : List α} {i : Int32} (h : ixo xs i = none) : ¬ (0 ≤ i.toInt ∧ i.toInt < xs.length) := by
  rintro ⟨h1, h2⟩
  unfold ixo at h
  rw [if_pos h1, List.getElem?_eq_getElem (by omega)] at h
  cases h
abbrev near64 (x y : Int64) : Prop := -1000000 ≤ x.toInt ∧ x.toInt ≤ 1000000 ∧ -1000000 ≤ y.toInt ∧ y.toInt ≤ 1000000
abbrev isTl (z : SD) (i : Int32) : Prop := 0 ≤ i.toInt ∧ i.toInt < z.1.length
def aHit (z : SD) (h : HV) : AR := if z.2.1.length < 60 then (.inr (.int (nI z.2.1.length)), z.1, z.2.1 ++ [h], z.2.2) else (.inr (.int (-1)), z)
def aHole (z : SD) (i : Int32) (x y : Int64) (f t : Int32) : AR := if isTl z i ∧ (0 ≤ f.toInt ∧ f.toInt ≤ 7) ∧ (0 ≤ t.toInt ∧ t.toInt ≤ 7) then (if near64 x y ∧ f ≤ t then aHit z (i, x.toInt32, y.toInt32, x.toInt32, y.toInt32, f, t) else (.inl 2, z)) else (.inl 1, z)
def aSlot (z : SD) (i : Int32) (x y x2 y2 : Int64) : AR := if isTl z i then (if near64 x y ∧ near64 x2 y2 ∧ ¬ (x = x2 ∧ y = y2) then aHit z (i, x.toInt32, y.toInt32, x2.toInt32, y2.toInt32, 0, 7) else (.inl 2, z)) else (.inl 1, z)
abbrev f12 (k : Nat) : Nat := if k = 1 then 12 else 11
theorem small32 {x : Int64} (h : -1000000 ≤ x.toInt ∧ x.toInt ≤ 1000000) : x.toInt32.toInt = x.toInt := by
  rw [Int64.toInt_toInt32]
  exact Int.bmod_eq_of_le (by omega) (by omega)
theorem near_ok {i f t : Int32} {x y x2 y2 : Int64} (h1 : near64 x y) (h2 : near64 x2 y2) (hf : layOK f) (ht : layOK t) : hOK (i, x.toInt32, y.toInt32, x2.toInt32, y2.toInt32, f, t) := by
  obtain ⟨a1, a2, a3, a4⟩ := h1
  obtain ⟨b1, b2, b3, b4⟩ := h2
  refine ⟨⟨?_, ?_, ?_, ?_⟩, hf, ht⟩
  · show x.toInt32.toInt.natAbs ≤ 1000000
    rw [small32 ⟨a1, a2⟩]; omega
  · show y.toInt32.toInt.natAbs ≤ 1000000
    rw [small32 ⟨a3, a4⟩]; omega
  · show x2.toInt32.toInt.natAbs ≤ 1000000
    rw [small32 ⟨b1, b2⟩]; omega
  · show y2.toInt32.toInt.natAbs ≤ 1000000
    rw [small32 ⟨b3, b4⟩]; omega
section DA2
variable {l : Launch} {D : xD} {R : Room}
theorem ct_Da_hole {a : Nat} {z : SD} {i f9 t9 : Int32} {x y : Int64} {S : List va_W} (hfl : l.flags = pinnedFlags ++ [noTraceFlag]) (h : IsDa D a z S) (hr : rmOk R 7 9 133) : CtT l mDa_hole none D R [.ref a, .int i, .long x, .long y, .int f9, .int t9] S (QR D a (aHole z i x y f9 t9)) (ER D a f12 (aHole z i x y f9 t9)) := by
  obtain ⟨r1, r2, r3, r4⟩ := hr
  have hz := id h
  obtain ⟨pl, w, un, fe, dr, f, r, kp, kf, kt, c0, c1, c2, xs, ts, hs, fs, Cp, Co, Cu, Cf, Cd, T, Cs, F, rfl, hpl, ho, hk, hu, hfe, hb, hd, hok, hv, htv, hhv, hfs, hff⟩ := h
  obtain ⟨ta, ha, ft, fh, eCd, hTs, -, -, -, h3, h4⟩ := id hd
  have hlen : z.1.length = ts.length := by rw [← htv, List.length_map]
  have hhl : z.2.1.length = hs.length := by rw [← hhv, List.length_map]
  generalize hP : aHole z i x y f9 t9 = P
  unfold aHole at hP
  refine CtT.of rfl (by decide) tkDa_hole (Nat.le_of_ble_eq_true rfl) (fun A => ?_)
  refine Ex.p rfl ?_
  refine Ex.p rfl ?_
  refine Ex.cvT (Mc := mDa_knownTool) (Rc := rm 6 1 6) (As := [.int i]) (rest := []) (Sr := [Cp, sTw w pl r kp kf kt, Co, Cu, Cf, T, sHs hs, Cs, F]) (ic := 0) (jc := 0) (ci := 0) [0, 6] [1, 2, 3, 4, 5, 7, 8, 9, 10] (ct_Da_knownTool hfl hd (rm_ok _ _ _)) rfl lk_0_69 lcDa_knownTool rfl rfl rfl rfl rfl (by decide) rfl rfl rfl (by decide) ⟨by dsimp only [rm]; omega, by show 8 + (3 + 11) + 240 ≤ R.locals; omega⟩ (Nat.le_of_ble_eq_true rfl) (by dsimp only [rm]; omega) (by dsimp only [rm]; omega) ?_ ?_
  · rintro v S1 ⟨t, hi, rfl, rfl⟩
    obtain ⟨hi1, hi2⟩ := ixo_some hi
    refine Ex.sub (S' := [sDa a pl w un fe dr f, Cp, sTw w pl r kp kf kt, Co, Cu, Cf, Cd, T, sHs hs, Cs, F]) [9, 0, 1, 2, 3, 4, 10, 5, 6, 7, 8] rfl rfl ?_
    have ilt : isTl z i := ⟨hi1.1, by rw [hlen]; exact hi1.2⟩
    have s22 : ¬ ((0 ≤ f9.toInt ∧ f9.toInt ≤ 7) ∧ (0 ≤ t9.toInt ∧ t9.toInt ≤ 7)) → Ex l mDa_hole D R A (xQT D A (QR D a P) (ER D a f12 P)) R.cells R.slots 22 (lv_args 0 [.ref a, .int i, .long x, .long y, .int f9, .int t9]) [] [sDa a pl w un fe dr f, Cp, sTw w pl r kp kf kt, Co, Cu, Cf, Cd, T, sHs hs, Cs, F] (0 + (rm 6 1 6).cells) (0 + (rm 6 1 6).slots) := by
      intro g
      rw [if_neg (fun q => g q.2)] at hP
      refine Ex.thr hfl rfl rfl rfl rfl rfl rfl rfl thrIO (by decide +kernel) lcDa_hole.1.2.1 (by first | omega | (dsimp only [rm]; omega)) (by first | omega | (dsimp only [rm]; omega)) (by first | omega | (dsimp only [rm]; omega)) (by first | omega | (dsimp only [rm]; omega)) (by omega) (by simp [Value.category]; omega) ?_
      subst hP
      exact ⟨1, rfl, rfl, hz⟩
    have s48 : (0 ≤ f9.toInt ∧ f9.toInt ≤ 7) → (0 ≤ t9.toInt ∧ t9.toInt ≤ 7) → ¬ (near64 x y ∧ f9 ≤ t9) → Ex l mDa_hole D R A (xQT D A (QR D a P) (ER D a f12 P)) R.cells R.slots 48 (lv_args 0 [.ref a, .int i, .long x, .long y, .int f9, .int t9]) [] [sDa a pl w un fe dr f, Cp, sTw w pl r kp kf kt, Co, Cu, Cf, Cd, T, sHs hs, Cs, F] (0 + (rm 6 1 6).cells) (0 + (rm 6 1 6).slots) := by
      intro g1 g2 g3
      rw [if_pos ⟨ilt, g1, g2⟩, if_neg g3] at hP
      refine Ex.thr hfl rfl rfl rfl rfl rfl rfl rfl thrIA (by decide +kernel) lcDa_hole.1.2.1 (by first | omega | (dsimp only [rm]; omega)) (by first | omega | (dsimp only [rm]; omega)) (by first | omega | (dsimp only [rm]; omega)) (by first | omega | (dsimp only [rm]; omega)) (by omega) (by simp [Value.category]; omega) ?_
      subst hP
      exact ⟨2, rfl, rfl, hz⟩
    refine Ex.p rfl ?_
    refine Ex.p rfl ?_
    refine Ex.cs0 (Mc := mDa_isLayer) (Rc := rm 0 0 0) (As := [.int f9]) (rest := []) (ct_isLayer) rfl lk_0_73 lcDa_isLayer rfl ⟨by dsimp only [rm]; omega, by show 8 + (1 + 11) + 0 ≤ R.locals; omega⟩ (Nat.le_of_ble_eq_true rfl) (by dsimp only [rm]; omega) (by dsimp only [rm]; omega) ?_
    rintro v S1 ⟨rfl, rfl⟩
    by_cases g1 : 0 ≤ f9.toInt ∧ f9.toInt ≤ 7
    · rw [decide_eq_true g1]
      refine Ex.br rfl (fun c => absurd c (show (1 : Int32) ≠ 0 by decide)) (fun _ => ?_)
      refine Ex.p rfl ?_
      refine Ex.cs0 (Mc := mDa_isLayer) (Rc := rm 0 0 0) (As := [.int t9]) (rest := []) (ct_isLayer) rfl lk_0_73 lcDa_isLayer rfl ⟨by dsimp only [rm]; omega, by show 8 + (1 + 11) + 0 ≤ R.locals; omega⟩ (Nat.le_of_ble_eq_true rfl) (by dsimp only [rm]; omega) (by dsimp only [rm]; omega) ?_
      rintro v S1 ⟨rfl, rfl⟩
      by_cases g2 : 0 ≤ t9.toInt ∧ t9.toInt ≤ 7
      · rw [decide_eq_true g2]
        refine Ex.br rfl (fun _ => ?_) (fun c => absurd (show (1 : Int32) ≠ 0 by decide) c)
        refine Ex.p rfl ?_
        refine Ex.p rfl ?_
        refine Ex.cs0 (Mc := mDa_isPlace) (Rc := rm 0 0 0) (As := [.long x, .long y]) (rest := []) (ct_isPlace) rfl lk_0_82 lcDa_isPlace rfl ⟨by dsimp only [rm]; omega, by show 8 + (4 + 11) + 0 ≤ R.locals; omega⟩ (Nat.le_of_ble_eq_true rfl) (by dsimp only [rm]; omega) (by dsimp only [rm]; omega) ?_
        rintro v S1 ⟨rfl, rfl⟩
        by_cases g3 : near64 x y
        · rw [decide_eq_true g3]
          refine Ex.br rfl (fun c => absurd c (show (1 : Int32) ≠ 0 by decide)) (fun _ => ?_)
          refine Ex.p rfl ?_
          refine Ex.p rfl ?_
          refine Ex.br rfl (fun c => ?_) (fun c => ?_)
          · have c : f9 ≤ t9 := c
            rw [if_pos ⟨ilt, g1, g2⟩, if_pos ⟨g3, c⟩] at hP
            unfold aHit at hP
            have hgrow : rcap t.2.2.2.2.2.2.2.1 t.2.2.2.1.length - t.2.2.2.2.2.2.2.1 ≤ 60 := by
              obtain ⟨X, C, Y, -, ⟨rh, ro, Ch, Co, -, ⟨_, _, _, q1, q2, _⟩, -⟩, -⟩ := IsTs.at hTs hi2
              unfold rcap
              split <;> omega
            refine Ex.p rfl ?_
            refine Ex.gf 0 0 rfl rfl rfl ?_
            refine Ex.cv (Mc := mTw_forget) (Rc := rm 0 0 0) (As := []) (rest := []) (Sr := [sDa a pl w un fe dr f, Cp, Co, Cu, Cf, Cd, T, sHs hs, Cs, F]) (ic := 2) (jc := 0) (ci := 8) [2] [0, 1, 3, 4, 5, 6, 7, 8, 9, 10] (ct_Tw_forget) rfl lk_0_62 lcTw_forget rfl rfl rfl rfl rfl (by decide) rfl rfl rfl (by decide) ⟨by dsimp only [rm]; omega, by show 8 + (1 + 11) + 0 ≤ R.locals; omega⟩ (Nat.le_of_ble_eq_true rfl) (by dsimp only [rm]; omega) (by dsimp only [rm]; omega) ?_
            rintro v S1 ⟨rfl, rfl⟩
            refine Ex.sub (S' := [sDa a pl w un fe dr f, Cp, sTw w pl r false kf kt, Co, Cu, Cf, Cd, T, sHs hs, Cs, F]) [0, 1, 10, 2, 3, 4, 5, 6, 7, 8, 9] rfl rfl ?_
            refine Ex.p rfl ?_
            refine Ex.gf 0 0 rfl rfl rfl ?_
            refine Ex.new (ci := 3) (N := 7) rfl rfl (by dsimp only [rm]; omega) (by dsimp only [rm]; omega) (fun q9 => ?_)
            repeat (first | refine Ex.p rfl ?_ | refine Ex.ldc rfl ?_ | refine Ex.ldc2 rfl ?_)
            refine Ex.ci (Mc := mHi_init) (Rc := rm 1 0 0) (As := [.int i, .int x.toInt32, .int y.toInt32, .int x.toInt32, .int y.toInt32, .int f9, .int t9]) (rest := [.ref q9, .ref dr]) (Sr := [sDa a pl w un fe dr f, Cp, sTw w pl r false kf kt, Co, Cu, Cf, Cd, T, sHs hs, Cs, F]) [11] [0, 1, 2, 3, 4, 5, 6, 7, 8, 9, 10] (ct_Hi_init (h := (i, x.toInt32, y.toInt32, x.toInt32, y.toInt32, f9, t9)) (rm_ok _ _ _)) rfl lk_0_90 lcHi_init rfl rfl rfl rfl rfl (by decide) ⟨by dsimp only [rm]; omega, by show 8 + (8 + 11) + 40 ≤ R.locals; omega⟩ (Nat.le_of_ble_eq_true rfl) (by dsimp only [rm]; omega) (by dsimp only [rm]; omega) ?_
            rintro v S1 ⟨rfl, rfl⟩
            refine Ex.cv (Mc := mDr_addHit) (Rc := rm 4 ((rcap t.2.2.2.2.2.2.2.1 t.2.2.2.1.length - t.2.2.2.2.2.2.2.1) / 8) (2 * (rcap t.2.2.2.2.2.2.2.1 t.2.2.2.1.length - t.2.2.2.2.2.2.2.1))) (As := [.ref q9]) (rest := []) (Sr := [sDa a pl w un fe dr f, Cp, sTw w pl r false kf kt, Co, Cu, Cf, Cs, F]) (ic := 6) (jc := 0) (ci := 1) [6, 7, 8, 11] [0, 1, 2, 3, 4, 5, 9, 10] (ct_Dr_addHit (i := i.toInt.toNat) (h9 := (i, x.toInt32, y.toInt32, x.toInt32, y.toInt32, f9, t9)) hd (by show i.toInt = _; omega) hi2 (fun h9 => by have := hok.hitsLen hi2; omega) (rm_ok _ _ _)) rfl lk_0_93 lcDr_addHit rfl rfl rfl rfl rfl (by decide) rfl (by rw [eCd]; rfl) rfl (by decide) ⟨by dsimp only [rm]; omega, by show 8 + (3 + 11) + 160 ≤ R.locals; omega⟩ (Nat.le_of_ble_eq_true rfl) (by dsimp only [rm]; omega) (by dsimp only [rm]; omega) ?_
            rintro v S1 h9
            rcases h9 with ⟨h10, rfl, rfl⟩ | ⟨h10, rfl, Cd', T', rfl, hd'⟩
            · rw [if_neg (by omega)] at hP
              refine Ex.sub (S' := [sDa a pl w un fe dr f, Cp, sTw w pl r false kf kt, Co, Cu, Cf, Cd, T, sHs hs, Cs, F]) [0, 1, 2, 3, 4, 5, 8, 9, 10, 6, 7] rfl rfl ?_
              refine Ex.rt (Ex.iret rfl rfl (by dsimp only [rm]; omega) (by dsimp only [rm]; omega) rfl ?_)
              subst hP
              exact ⟨_, rfl, rfl, pl, w, un, fe, dr, f, r, false, kf, kt, c0, c1, c2, xs, ts, hs, fs, Cp, Co, Cu, Cf, Cd, T, Cs, F, rfl, hpl, ho, (fun c => by cases c), hu, hfe, hb, hd, hok, hv, htv, hhv, hfs, hff⟩
            · rw [if_pos (by omega)] at hP
              refine Ex.sub (S' := [sDa a pl w un fe dr f, Cp, sTw w pl r false kf kt, Co, Cu, Cf, Cd', T', sHs (hs ++ [(q9, (i, x.toInt32, y.toInt32, x.toInt32, y.toInt32, f9, t9))]), Cs, F]) [0, 1, 2, 3, 4, 5, 8, 9, 10, 6, 7] rfl rfl ?_
              refine Ex.rt (Ex.iret rfl rfl (by dsimp only [rm]; omega) (by dsimp only [rm]; omega) rfl ?_)
              subst hP
              exact ⟨_, rfl, by rw [hhl], pl, w, un, fe, dr, f, r, false, kf, kt, c0, c1, c2, xs, _, _, fs, Cp, Co, Cu, Cf, Cd', T', Cs, F, rfl, hpl, ho, (fun c => by cases c), hu, hfe, hb, hd', hok.hit hi2 (nI_nat hi1.1).symm (near_ok g3 g3 g1 g2) (by omega) h10, (by rw [List.length_set, List.map_append]; exact hv.add (by omega) (nI_nat hi1.1).symm), (by rw [map_set_tvo hi2 tvo_tadd, htv]), (by rw [List.map_append, hhv]; rfl), hfs, hff⟩
          · have c : ¬ f9 ≤ t9 := c
            exact s48 g1 g2 (fun q => c q.2)
        · rw [decide_eq_false g3]
          exact Ex.br rfl (fun _ => s48 g1 g2 (fun q => g3 q.1)) (fun c => absurd rfl c)
      · rw [decide_eq_false g2]
        exact Ex.br rfl (fun c => absurd rfl c) (fun _ => s22 (fun q => g2 q.2))
    · rw [decide_eq_false g1]
      exact Ex.br rfl (fun _ => s22 (fun q => g1 q.1)) (fun c => absurd rfl c)
  · rintro x9 cc S1 ⟨rfl, hno, rfl⟩
    refine Et.sub (S' := [sDa a pl w un fe dr f, Cp, sTw w pl r kp kf kt, Co, Cu, Cf, Cd, T, sHs hs, Cs, F]) [9, 0, 1, 2, 3, 4, 10, 5, 6, 7, 8] rfl rfl ?_
    refine Et.leave lcDa_hole.1.2.1 (by dsimp only [rm]; omega) (by dsimp only [rm]; omega) ?_
    rw [if_neg (fun q => ixo_no hno ⟨q.1.1, by rw [← hlen]; exact q.1.2⟩)] at hP
    subst hP
    exact ⟨1, rfl, rfl, hz⟩
end DA2
end
section
/-! DrillArchive: slot, at, proved -/
def aAt (z : SD) (k w : Int32) : AR := match ixo z.2.1 k with
  | some h => if 0 ≤ w.toInt ∧ w.toInt ≤ 7 then (.inr (.long (hpart h w)), z) else (.inl 1, z)
  | none => (.inl 1, z)
def aProved (z : SD) (i : Int32) : AR := if isTl z i then (.inr (.int (b32 (decide ((tns z.2.1 i.toInt.toNat).length ≤ 8)))), z) else (.inl 1, z)
theorem DrOK.set {ts : List TV} {hs : List (Nat × HV)} {i : Nat} {t : TV} (h : DrOK ts hs) (ht : tOK (hs.map (fun h => h.2)) i t) : DrOK (ts.set i t) hs := by
  refine ⟨fun j u hj => ?_, h.2⟩
  by_cases hij : i = j
  · subst hij
    by_cases hl : i < ts.length
    · rw [List.getElem?_set_self hl] at hj
      cases hj
      exact ht
    · rw [List.set_eq_of_length_le (by omega)] at hj
      exact h.1 i u hj
  · rw [List.getElem?_set_ne hij] at hj
    exact h.1 j u hj
theorem ixo_map {α β : Type} {xs : List α} {i : Int32} {g : α → β} : ixo (xs.map g) i = (ixo xs i).map g := by
  unfold ixo
  split
  · rw [List.getElem?_map]
  · rfl
section DA3
variable {l : Launch} {D : xD} {R : Room}
theorem ct_Da_slot {a : Nat} {z : SD} {i : Int32} {x y x2 y2 : Int64} {S : List va_W} (hfl : l.flags = pinnedFlags ++ [noTraceFlag]) (h : IsDa D a z S) (hr : rmOk R 7 9 133) : CtT l mDa_slot none D R [.ref a, .int i, .long x, .long y, .long x2, .long y2] S (QR D a (aSlot z i x y x2 y2)) (ER D a f12 (aSlot z i x y x2 y2)) := by
  obtain ⟨r1, r2, r3, r4⟩ := hr
  have hz := id h
  obtain ⟨pl, w, un, fe, dr, f, r, kp, kf, kt, c0, c1, c2, xs, ts, hs, fs, Cp, Co, Cu, Cf, Cd, T, Cs, F, rfl, hpl, ho, hk, hu, hfe, hb, hd, hok, hv, htv, hhv, hfs, hff⟩ := h
  obtain ⟨ta, ha, ft, fh, eCd, hTs, -, -, -, h3, h4⟩ := id hd
  have hlen : z.1.length = ts.length := by rw [← htv, List.length_map]
  have hhl : z.2.1.length = hs.length := by rw [← hhv, List.length_map]
  generalize hP : aSlot z i x y x2 y2 = P
  unfold aSlot at hP
  refine CtT.of rfl (by decide) tkDa_slot (Nat.le_of_ble_eq_true rfl) (fun A => ?_)
  refine Ex.p rfl ?_
  refine Ex.p rfl ?_
  refine Ex.cvT (Mc := mDa_knownTool) (Rc := rm 6 1 6) (As := [.int i]) (rest := []) (Sr := [Cp, sTw w pl r kp kf kt, Co, Cu, Cf, T, sHs hs, Cs, F]) (ic := 0) (jc := 0) (ci := 0) [0, 6] [1, 2, 3, 4, 5, 7, 8, 9, 10] (ct_Da_knownTool hfl hd (rm_ok _ _ _)) rfl lk_0_69 lcDa_knownTool rfl rfl rfl rfl rfl (by decide) rfl rfl rfl (by decide) ⟨by dsimp only [rm]; omega, by show 8 + (3 + 11) + 240 ≤ R.locals; omega⟩ (Nat.le_of_ble_eq_true rfl) (by dsimp only [rm]; omega) (by dsimp only [rm]; omega) ?_ ?_
  · rintro v S1 ⟨t, hi, rfl, rfl⟩
    obtain ⟨hi1, hi2⟩ := ixo_some hi
    refine Ex.sub (S' := [sDa a pl w un fe dr f, Cp, sTw w pl r kp kf kt, Co, Cu, Cf, Cd, T, sHs hs, Cs, F]) [9, 0, 1, 2, 3, 4, 10, 5, 6, 7, 8] rfl rfl ?_
    have ilt : isTl z i := ⟨hi1.1, by rw [hlen]; exact hi1.2⟩
    rw [if_pos ilt] at hP
    have s40 : ¬ (near64 x y ∧ near64 x2 y2 ∧ ¬ (x = x2 ∧ y = y2)) → Ex l mDa_slot D R A (xQT D A (QR D a P) (ER D a f12 P)) R.cells R.slots 40 (lv_args 0 [.ref a, .int i, .long x, .long y, .long x2, .long y2]) [] [sDa a pl w un fe dr f, Cp, sTw w pl r kp kf kt, Co, Cu, Cf, Cd, T, sHs hs, Cs, F] (0 + (rm 6 1 6).cells) (0 + (rm 6 1 6).slots) := by
      intro g
      rw [if_neg g] at hP
      refine Ex.thr hfl rfl rfl rfl rfl rfl rfl rfl thrIA (by decide +kernel) lcDa_slot.1.2.1 (by first | omega | (dsimp only [rm]; omega)) (by first | omega | (dsimp only [rm]; omega)) (by first | omega | (dsimp only [rm]; omega)) (by first | omega | (dsimp only [rm]; omega)) (by omega) (by simp [Value.category]; omega) ?_
      subst hP
      exact ⟨2, rfl, rfl, hz⟩
    have s50 : near64 x y → near64 x2 y2 → ¬ (x = x2 ∧ y = y2) → Ex l mDa_slot D R A (xQT D A (QR D a P) (ER D a f12 P)) R.cells R.slots 50 (lv_args 0 [.ref a, .int i, .long x, .long y, .long x2, .long y2]) [] [sDa a pl w un fe dr f, Cp, sTw w pl r kp kf kt, Co, Cu, Cf, Cd, T, sHs hs, Cs, F] (0 + (rm 6 1 6).cells) (0 + (rm 6 1 6).slots) := by
      intro g1 g2 g3
      rw [if_pos ⟨g1, g2, g3⟩] at hP
      unfold aHit at hP
      have hgrow : rcap t.2.2.2.2.2.2.2.1 t.2.2.2.1.length - t.2.2.2.2.2.2.2.1 ≤ 60 := by
        obtain ⟨X, C, Y, -, ⟨rh, ro, Ch, Co, -, ⟨_, _, _, q1, q2, _⟩, -⟩, -⟩ := IsTs.at hTs hi2
        unfold rcap
        split <;> omega
      refine Ex.p rfl ?_
      refine Ex.gf 0 0 rfl rfl rfl ?_
      refine Ex.cv (Mc := mTw_forget) (Rc := rm 0 0 0) (As := []) (rest := []) (Sr := [sDa a pl w un fe dr f, Cp, Co, Cu, Cf, Cd, T, sHs hs, Cs, F]) (ic := 2) (jc := 0) (ci := 8) [2] [0, 1, 3, 4, 5, 6, 7, 8, 9, 10] (ct_Tw_forget) rfl lk_0_62 lcTw_forget rfl rfl rfl rfl rfl (by decide) rfl rfl rfl (by decide) ⟨by dsimp only [rm]; omega, by show 8 + (1 + 11) + 0 ≤ R.locals; omega⟩ (Nat.le_of_ble_eq_true rfl) (by dsimp only [rm]; omega) (by dsimp only [rm]; omega) ?_
      rintro v S1 ⟨rfl, rfl⟩
      refine Ex.sub (S' := [sDa a pl w un fe dr f, Cp, sTw w pl r false kf kt, Co, Cu, Cf, Cd, T, sHs hs, Cs, F]) [0, 1, 10, 2, 3, 4, 5, 6, 7, 8, 9] rfl rfl ?_
      refine Ex.p rfl ?_
      refine Ex.gf 0 0 rfl rfl rfl ?_
      refine Ex.new (ci := 3) (N := 7) rfl rfl (by dsimp only [rm]; omega) (by dsimp only [rm]; omega) (fun q9 => ?_)
      repeat (first | refine Ex.p rfl ?_ | refine Ex.ldc rfl ?_ | refine Ex.ldc2 rfl ?_)
      refine Ex.ci (Mc := mHi_init) (Rc := rm 1 0 0) (As := [.int i, .int x.toInt32, .int y.toInt32, .int x2.toInt32, .int y2.toInt32, .int 0, .int 7]) (rest := [.ref q9, .ref dr]) (Sr := [sDa a pl w un fe dr f, Cp, sTw w pl r false kf kt, Co, Cu, Cf, Cd, T, sHs hs, Cs, F]) [11] [0, 1, 2, 3, 4, 5, 6, 7, 8, 9, 10] (ct_Hi_init (h := (i, x.toInt32, y.toInt32, x2.toInt32, y2.toInt32, 0, 7)) (rm_ok _ _ _)) rfl lk_0_90 lcHi_init rfl rfl rfl rfl rfl (by decide) ⟨by dsimp only [rm]; omega, by show 8 + (8 + 11) + 40 ≤ R.locals; omega⟩ (Nat.le_of_ble_eq_true rfl) (by dsimp only [rm]; omega) (by dsimp only [rm]; omega) ?_
      rintro v S1 ⟨rfl, rfl⟩
      refine Ex.cv (Mc := mDr_addHit) (Rc := rm 4 ((rcap t.2.2.2.2.2.2.2.1 t.2.2.2.1.length - t.2.2.2.2.2.2.2.1) / 8) (2 * (rcap t.2.2.2.2.2.2.2.1 t.2.2.2.1.length - t.2.2.2.2.2.2.2.1))) (As := [.ref q9]) (rest := []) (Sr := [sDa a pl w un fe dr f, Cp, sTw w pl r false kf kt, Co, Cu, Cf, Cs, F]) (ic := 6) (jc := 0) (ci := 1) [6, 7, 8, 11] [0, 1, 2, 3, 4, 5, 9, 10] (ct_Dr_addHit (i := i.toInt.toNat) (h9 := (i, x.toInt32, y.toInt32, x2.toInt32, y2.toInt32, 0, 7)) hd (by show i.toInt = _; omega) hi2 (fun h9 => by have := hok.hitsLen hi2; omega) (rm_ok _ _ _)) rfl lk_0_93 lcDr_addHit rfl rfl rfl rfl rfl (by decide) rfl (by rw [eCd]; rfl) rfl (by decide) ⟨by dsimp only [rm]; omega, by show 8 + (3 + 11) + 160 ≤ R.locals; omega⟩ (Nat.le_of_ble_eq_true rfl) (by dsimp only [rm]; omega) (by dsimp only [rm]; omega) ?_
      rintro v S1 h9
      rcases h9 with ⟨h10, rfl, rfl⟩ | ⟨h10, rfl, Cd', T', rfl, hd'⟩
      · rw [if_neg (by omega)] at hP
        refine Ex.sub (S' := [sDa a pl w un fe dr f, Cp, sTw w pl r false kf kt, Co, Cu, Cf, Cd, T, sHs hs, Cs, F]) [0, 1, 2, 3, 4, 5, 8, 9, 10, 6, 7] rfl rfl ?_
        refine Ex.rt (Ex.iret rfl rfl (by dsimp only [rm]; omega) (by dsimp only [rm]; omega) rfl ?_)
        subst hP
        exact ⟨_, rfl, rfl, pl, w, un, fe, dr, f, r, false, kf, kt, c0, c1, c2, xs, ts, hs, fs, Cp, Co, Cu, Cf, Cd, T, Cs, F, rfl, hpl, ho, (fun c => by cases c), hu, hfe, hb, hd, hok, hv, htv, hhv, hfs, hff⟩
      · rw [if_pos (by omega)] at hP
        refine Ex.sub (S' := [sDa a pl w un fe dr f, Cp, sTw w pl r false kf kt, Co, Cu, Cf, Cd', T', sHs (hs ++ [(q9, (i, x.toInt32, y.toInt32, x2.toInt32, y2.toInt32, 0, 7))]), Cs, F]) [0, 1, 2, 3, 4, 5, 8, 9, 10, 6, 7] rfl rfl ?_
        refine Ex.rt (Ex.iret rfl rfl (by dsimp only [rm]; omega) (by dsimp only [rm]; omega) rfl ?_)
        subst hP
        exact ⟨_, rfl, by rw [hhl], pl, w, un, fe, dr, f, r, false, kf, kt, c0, c1, c2, xs, _, _, fs, Cp, Co, Cu, Cf, Cd', T', Cs, F, rfl, hpl, ho, (fun c => by cases c), hu, hfe, hb, hd', hok.hit hi2 (nI_nat hi1.1).symm (near_ok g1 g2 (show layOK 0 from ⟨by decide, by decide⟩) (show layOK 7 from ⟨by decide, by decide⟩)) (by omega) h10, (by rw [List.length_set, List.map_append]; exact hv.add (by omega) (nI_nat hi1.1).symm), (by rw [map_set_tvo hi2 tvo_tadd, htv]), (by rw [List.map_append, hhv]; rfl), hfs, hff⟩
    refine Ex.p rfl ?_
    refine Ex.p rfl ?_
    refine Ex.p rfl ?_
    refine Ex.cs0 (Mc := mDa_isPlace) (Rc := rm 0 0 0) (As := [.long x, .long y]) (rest := []) (ct_isPlace) rfl lk_0_82 lcDa_isPlace rfl ⟨by dsimp only [rm]; omega, by show 8 + (4 + 11) + 0 ≤ R.locals; omega⟩ (Nat.le_of_ble_eq_true rfl) (by dsimp only [rm]; omega) (by dsimp only [rm]; omega) ?_
    rintro v S1 ⟨rfl, rfl⟩
    by_cases g1 : near64 x y
    · rw [decide_eq_true g1]
      refine Ex.br rfl (fun c => absurd c (show (1 : Int32) ≠ 0 by decide)) (fun _ => ?_)
      refine Ex.p rfl ?_
      refine Ex.p rfl ?_
      refine Ex.cs0 (Mc := mDa_isPlace) (Rc := rm 0 0 0) (As := [.long x2, .long y2]) (rest := []) (ct_isPlace) rfl lk_0_82 lcDa_isPlace rfl ⟨by dsimp only [rm]; omega, by show 8 + (4 + 11) + 0 ≤ R.locals; omega⟩ (Nat.le_of_ble_eq_true rfl) (by dsimp only [rm]; omega) (by dsimp only [rm]; omega) ?_
      rintro v S1 ⟨rfl, rfl⟩
      by_cases g2 : near64 x2 y2
      · rw [decide_eq_true g2]
        refine Ex.br rfl (fun c => absurd c (show (1 : Int32) ≠ 0 by decide)) (fun _ => ?_)
        refine Ex.p rfl ?_
        refine Ex.p rfl ?_
        refine Ex.p rfl ?_
        refine Ex.br rfl (fun c => ?_) (fun c => ?_)
        · have c : ¬ lg_cmp x x2 = 0 := c
          rw [lg_cmp_eq] at c
          exact s50 g1 g2 (fun q => c q.1)
        · have c : ¬ ¬ lg_cmp x x2 = 0 := c
          rw [lg_cmp_eq] at c
          have c := Decidable.not_not.mp c
          refine Ex.p rfl ?_
          refine Ex.p rfl ?_
          refine Ex.p rfl ?_
          refine Ex.br rfl (fun c2 => ?_) (fun c2 => ?_)
          · have c2 : ¬ lg_cmp y y2 = 0 := c2
            rw [lg_cmp_eq] at c2
            exact s50 g1 g2 (fun q => c2 q.2)
          · have c2 : ¬ ¬ lg_cmp y y2 = 0 := c2
            rw [lg_cmp_eq] at c2
            have c2 := Decidable.not_not.mp c2
            exact s40 (fun q => q.2.2 ⟨c, c2⟩)
      · rw [decide_eq_false g2]
        exact Ex.br rfl (fun _ => s40 (fun q => g2 q.2.1)) (fun c => absurd rfl c)
    · rw [decide_eq_false g1]
      exact Ex.br rfl (fun _ => s40 (fun q => g1 q.1)) (fun c => absurd rfl c)
  · rintro x9 cc S1 ⟨rfl, hno, rfl⟩
    refine Et.sub (S' := [sDa a pl w un fe dr f, Cp, sTw w pl r kp kf kt, Co, Cu, Cf, Cd, T, sHs hs, Cs, F]) [9, 0, 1, 2, 3, 4, 10, 5, 6, 7, 8] rfl rfl ?_
    refine Et.leave lcDa_slot.1.2.1 (by dsimp only [rm]; omega) (by dsimp only [rm]; omega) ?_
    rw [if_neg (fun q => ixo_no hno ⟨q.1, by rw [← hlen]; exact q.2⟩)] at hP
    subst hP
    exact ⟨1, rfl, rfl, hz⟩
theorem ct_Da_at {a : Nat} {z : SD} {k9 w9 : Int32} {S : List va_W} (hfl : l.flags = pinnedFlags ++ [noTraceFlag]) (h : IsDa D a z S) (hr : rmOk R 6 1 6) : CtT l mDa_at none D R [.ref a, .int k9, .int w9] S (QR D a (aAt z k9 w9)) (ER D a (fun _ => 12) (aAt z k9 w9)) := by
  obtain ⟨r1, r2, r3, r4⟩ := hr
  have hz := id h
  obtain ⟨pl, w, un, fe, dr, f, r, kp, kf, kt, c0, c1, c2, xs, ts, hs, fs, Cp, Co, Cu, Cf, Cd, T, Cs, F, rfl, hpl, ho, hk, hu, hfe, hb, hd, hok, hv, htv, hhv, hfs, hff⟩ := h
  obtain ⟨ta, ha, ft, fh, eCd, hTs, -, -, -, h3, h4⟩ := id hd
  generalize hP : aAt z k9 w9 = P
  unfold aAt at hP
  rw [← hhv, ixo_map] at hP
  refine CtT.of rfl (by decide) tkDa_at (Nat.le_of_ble_eq_true rfl) (fun A => ?_)
  have s23 : P = (.inl 1, z) → ∀ lv9 : List (Nat × Value), Ex l mDa_at D R A (xQT D A (QR D a P) (ER D a (fun _ => 12) P)) R.cells R.slots 23 lv9 [] [sDa a pl w un fe dr f, Cp, sTw w pl r kp kf kt, Co, Cu, Cf, Cd, T, sHs hs, Cs, F] 0 0 := by
    intro e lv9
    refine Ex.thr hfl rfl rfl rfl rfl rfl rfl rfl thrIO (by decide +kernel) lcDa_at.1.2.1 (by first | omega | (dsimp only [rm]; omega)) (by first | omega | (dsimp only [rm]; omega)) (by first | omega | (dsimp only [rm]; omega)) (by first | omega | (dsimp only [rm]; omega)) (by omega) (by simp [Value.category]; omega) ?_
    subst e
    exact ⟨1, rfl, rfl, hz⟩
  refine Ex.p rfl ?_
  refine Ex.gf 0 0 rfl rfl rfl ?_
  refine Ex.p rfl ?_
  refine Ex.cv (Mc := mDr_hitAt) (Rc := rm 0 0 0) (As := [.int k9]) (rest := []) (Sr := [sDa a pl w un fe dr f, Cp, sTw w pl r kp kf kt, Co, Cu, Cf, T, sHs hs, Cs, F]) (ic := 6) (jc := 0) (ci := 1) [6] [0, 1, 2, 3, 4, 5, 7, 8, 9, 10] (ct_Dr_hitAt hd) rfl lk_0_128 lcDr_hitAt rfl rfl rfl rfl rfl (by decide) rfl (by rw [eCd]; rfl) rfl (by decide) ⟨by dsimp only [rm]; omega, by show 8 + (2 + 11) + 0 ≤ R.locals; omega⟩ (Nat.le_of_ble_eq_true rfl) (by dsimp only [rm]; omega) (by dsimp only [rm]; omega) ?_
  rintro v S1 ⟨rfl, rfl⟩
  refine Ex.sub (S' := [sDa a pl w un fe dr f, Cp, sTw w pl r kp kf kt, Co, Cu, Cf, Cd, T, sHs hs, Cs, F]) [0, 1, 2, 3, 4, 5, 10, 6, 7, 8, 9] rfl rfl ?_
  cases hi : ixo hs k9 with
  | none =>
    rw [hi] at hP
    refine Ex.p rfl ?_
    refine Ex.p rfl ?_
    refine Ex.nuN rfl rfl ?_
    exact s23 hP.symm _
  | some q =>
    obtain ⟨q, hh⟩ := q
    rw [hi] at hP
    have hP : (if 0 ≤ w9.toInt ∧ w9.toInt ≤ 7 then ((Sum.inr (.long (hpart hh w9)), z) : AR) else (.inl 1, z)) = P := hP
    refine Ex.p rfl ?_
    refine Ex.p rfl ?_
    refine Ex.nuR rfl ?_
    refine Ex.p rfl ?_
    refine Ex.br rfl (fun c => ?_) (fun c => ?_)
    · have c : w9 < 0 := c
      rw [Int32.lt_iff_toInt_lt] at c
      have c : w9.toInt < 0 := c
      rw [if_neg (by omega)] at hP
      exact s23 hP.symm _
    · have c : ¬ w9 < 0 := c
      rw [Int32.lt_iff_toInt_lt] at c
      have c : ¬ w9.toInt < 0 := c
      refine Ex.p rfl ?_
      refine Ex.p rfl ?_
      refine Ex.br rfl (fun c2 => ?_) (fun c2 => ?_)
      · have c2 : w9 ≤ 7 := c2
        rw [Int32.le_iff_toInt_le] at c2
        have c2 : w9.toInt ≤ 7 := c2
        rw [if_pos (by omega)] at hP
        obtain ⟨-, hi2⟩ := ixo_some hi
        obtain ⟨hi3, hi4⟩ := List.getElem?_eq_some_iff.mp hi2
        have eH : sHs hs = (sHs hs).take k9.toInt.toNat ++ ([cHit q hh] ++ (sHs hs).drop (k9.toInt.toNat + 1)) := by
          have e0 : (sHs hs)[k9.toInt.toNat]? = some (cHit q hh) := by
            unfold sHs
            rw [List.getElem?_map, hi2]
            rfl
          obtain ⟨hlt, e1⟩ := List.getElem?_eq_some_iff.mp e0
          rw [← e1, List.singleton_append, ← List.drop_eq_getElem_cons hlt, List.take_append_drop]
        refine Ex.p rfl ?_
        refine Ex.p rfl ?_
        refine Ex.seg (S' := [sDa a pl w un fe dr f, Cp, sTw w pl r kp kf kt, Co, Cu, Cf, Cd, T, (sHs hs).take k9.toInt.toNat, [cHit q hh], (sHs hs).drop (k9.toInt.toNat + 1), Cs, F]) (by
          show _ = _
          conv => lhs; rw [eH]
          simp) ?_
        refine Ex.cv (Mc := mHi_part) (Rc := rm 1 0 0) (As := [.int w9]) (rest := []) (Sr := [sDa a pl w un fe dr f, Cp, sTw w pl r kp kf kt, Co, Cu, Cf, Cd, T, (sHs hs).take k9.toInt.toNat, (sHs hs).drop (k9.toInt.toNat + 1), Cs, F]) (ic := 9) (jc := 0) (ci := 3) [9] [0, 1, 2, 3, 4, 5, 6, 7, 8, 10, 11, 12] (ct_Hi_part (by omega) c2 (rm_ok _ _ _)) rfl lk_0_134 lcHi_part rfl rfl rfl rfl rfl (by decide) rfl rfl rfl (by decide) ⟨by dsimp only [rm]; omega, by show 8 + (2 + 11) + 40 ≤ R.locals; omega⟩ (Nat.le_of_ble_eq_true rfl) (by dsimp only [rm]; omega) (by dsimp only [rm]; omega) ?_
        rintro v S1 ⟨rfl, rfl⟩
        refine Ex.sub (S' := [sDa a pl w un fe dr f, Cp, sTw w pl r kp kf kt, Co, Cu, Cf, Cd, T, (sHs hs).take k9.toInt.toNat, [cHit q hh], (sHs hs).drop (k9.toInt.toNat + 1), Cs, F]) [0, 1, 2, 3, 4, 5, 6, 7, 8, 12, 9, 10, 11] rfl rfl ?_
        refine Ex.rt (Ex.lret (S' := [sDa a pl w un fe dr f, Cp, sTw w pl r kp kf kt, Co, Cu, Cf, Cd, T, sHs hs, Cs, F]) rfl rfl (by dsimp only [rm]; omega) (by dsimp only [rm]; omega) ?_ ?_)
        · show _ = _
          conv => rhs; rw [eH]
          simp
        · subst hP
          exact ⟨_, rfl, rfl, hz⟩
      · have c2 : ¬ w9 ≤ 7 := c2
        rw [Int32.le_iff_toInt_le] at c2
        have c2 : ¬ w9.toInt ≤ 7 := c2
        rw [if_neg (by omega)] at hP
        exact s23 hP.symm _
theorem ct_Da_proved {a : Nat} {z : SD} {i : Int32} {S : List va_W} (hfl : l.flags = pinnedFlags ++ [noTraceFlag]) (h : IsDa D a z S) (hr : rmOk R 7 1 6) : CtT l mDa_proved none D R [.ref a, .int i] S (QR D a (aProved z i)) (ER D a (fun _ => 12) (aProved z i)) := by
  obtain ⟨r1, r2, r3, r4⟩ := hr
  have hz := id h
  obtain ⟨pl, w, un, fe, dr, f, r, kp, kf, kt, c0, c1, c2, xs, ts, hs, fs, Cp, Co, Cu, Cf, Cd, T, Cs, F, rfl, hpl, ho, hk, hu, hfe, hb, hd, hok, hv, htv, hhv, hfs, hff⟩ := h
  obtain ⟨ta, ha, ft, fh, eCd, hTs, -, -, -, h3, h4⟩ := id hd
  have hlen : z.1.length = ts.length := by rw [← htv, List.length_map]
  generalize hP : aProved z i = P
  unfold aProved at hP
  refine CtT.of rfl (by decide) tkDa_proved (Nat.le_of_ble_eq_true rfl) (fun A => ?_)
  refine Ex.p rfl ?_
  refine Ex.p rfl ?_
  refine Ex.cvT (Mc := mDa_knownTool) (Rc := rm 6 1 6) (As := [.int i]) (rest := []) (Sr := [Cp, sTw w pl r kp kf kt, Co, Cu, Cf, T, sHs hs, Cs, F]) (ic := 0) (jc := 0) (ci := 0) [0, 6] [1, 2, 3, 4, 5, 7, 8, 9, 10] (ct_Da_knownTool hfl hd (rm_ok _ _ _)) rfl lk_0_69 lcDa_knownTool rfl rfl rfl rfl rfl (by decide) rfl rfl rfl (by decide) ⟨by dsimp only [rm]; omega, by show 8 + (3 + 11) + 240 ≤ R.locals; omega⟩ (Nat.le_of_ble_eq_true rfl) (by dsimp only [rm]; omega) (by dsimp only [rm]; omega) ?_ ?_
  · rintro v S1 ⟨t, hi, rfl, rfl⟩
    obtain ⟨hi1, hi2⟩ := ixo_some hi
    refine Ex.sub (S' := [sDa a pl w un fe dr f, Cp, sTw w pl r kp kf kt, Co, Cu, Cf, Cd, T, sHs hs, Cs, F]) [9, 0, 1, 2, 3, 4, 10, 5, 6, 7, 8] rfl rfl ?_
    have ilt : isTl z i := ⟨hi1.1, by rw [hlen]; exact hi1.2⟩
    rw [if_pos ilt] at hP
    obtain ⟨X, C, Y, eT, hC, -⟩ := hd.at hi2
    obtain ⟨rh, ro, Ch, Cr, rfl, ⟨ar, fr, rfl, y1, y2, y3, y4, y5, y6⟩, hro⟩ := hC
    obtain ⟨k1, -⟩ := hok.1 _ _ hi2
    have hcnt : t.2.2.2.1.length = (tns z.2.1 i.toInt.toNat).length := by rw [k1, hhv, List.length_map]
    refine Ex.seg (S' := [sDa a pl w un fe dr f, Cp, sTw w pl r kp kf kt, Co, Cu, Cf, Cd, X, [(t.1, .inr (9, [.int t.2.1, .int (b32 t.2.2.1), .ref rh, .ref ro, .long t.2.2.2.2.2.1, .int (b32 t.2.2.2.2.2.2.1)]))], sRow D rh ar t.2.2.2.2.2.2.2.1 fr 60 t.2.2.2.1.length, Cr ++ Y, sHs hs, Cs, F]) (by rw [eT]; simp) ?_
    refine Ex.gf 8 0 rfl rfl rfl ?_
    refine Ex.gf 9 0 rfl rfl rfl ?_
    refine Ex.p rfl ?_
    refine Ex.br rfl (fun c => ?_) (fun c => ?_)
    · have c : nI 8 < nI t.2.2.2.1.length := c
      rw [nI_ltI (by omega) (by omega)] at c
      refine Ex.p rfl ?_
      refine Ex.rt (Ex.zret (S' := [sDa a pl w un fe dr f, Cp, sTw w pl r kp kf kt, Co, Cu, Cf, Cd, T, sHs hs, Cs, F]) rfl rfl (Or.inl rfl) (by dsimp only [rm]; omega) (by dsimp only [rm]; omega) (by rw [eT]; simp) ?_)
      subst hP
      exact ⟨_, rfl, by rw [decide_eq_false (by omega)]; rfl, hz⟩
    · have c : ¬ nI 8 < nI t.2.2.2.1.length := c
      rw [nI_ltI (by omega) (by omega)] at c
      refine Ex.p rfl ?_
      refine Ex.p rfl ?_
      refine Ex.rt (Ex.zret (S' := [sDa a pl w un fe dr f, Cp, sTw w pl r kp kf kt, Co, Cu, Cf, Cd, T, sHs hs, Cs, F]) rfl rfl (Or.inr rfl) (by dsimp only [rm]; omega) (by dsimp only [rm]; omega) (by rw [eT]; simp) ?_)
      subst hP
      exact ⟨_, rfl, by rw [decide_eq_true (by omega)]; rfl, hz⟩
  · rintro x9 cc S1 ⟨rfl, hno, rfl⟩
    refine Et.sub (S' := [sDa a pl w un fe dr f, Cp, sTw w pl r kp kf kt, Co, Cu, Cf, Cd, T, sHs hs, Cs, F]) [9, 0, 1, 2, 3, 4, 10, 5, 6, 7, 8] rfl rfl ?_
    refine Et.leave lcDa_proved.1.2.1 (by dsimp only [rm]; omega) (by dsimp only [rm]; omega) ?_
    rw [if_neg (fun q => ixo_no hno ⟨q.1, by rw [← hlen]; exact q.2⟩)] at hP
    subst hP
    exact ⟨1, rfl, rfl, hz⟩
end DA3
end
section
/-! DrillArchive: order, travel, byteOf, sum -/
noncomputable def aOrder (z : SD) (i k : Int32) : AR := if isTl z i then (.inr (.int (rget ((tor z.2.1 i.toInt.toNat).map nI) k)), z) else (.inl 1, z)
noncomputable def aTravel (z : SD) (i : Int32) : AR := if isTl z i then (.inr (.long (tln z.2.1 i.toInt.toNat)), z) else (.inl 1, z)
def aByte (z : SD) (i b : Int32) : AR := match ixo z.2.2.2.2 i with
  | none => (.inl 1, z)
  | some x => if 0 ≤ b.toInt ∧ b.toInt < 256 then (if x.2.length < 300 then (.inr (.int 1), z.1, z.2.1, z.2.2.1, z.2.2.2.1, z.2.2.2.2.set i.toInt.toNat (x.1, x.2 ++ [b.toInt.toNat])) else (.inr (.int 0), z)) else (.inl 2, z)
def aSum (z : SD) (i : Int32) : AR := match ixo z.2.2.2.2 i with
  | none => (.inl 1, z)
  | some x => (.inr (.long (nI (fsum x.2)).toInt64), z)
theorem IsFs.at {D : xD} {f : Nat} {fs : List FV} {Cs F : va_W} (h : IsFs D f fs Cs F) {i : Nat} {x : FV} (hi : fs[i]? = some x) : ∃ X C Y, F = X ++ (C ++ Y) ∧ IsF D x C ∧ ∀ x' C', IsF D x' C' → x'.1 = x.1 → IsFs D f (fs.set i x') Cs (X ++ (C' ++ Y)) := by
  obtain ⟨fa, ff, e1, hL, h1, h2⟩ := h
  obtain ⟨X, C, Y, e, hC, hb⟩ := IsL.at hL hi
  refine ⟨X, C, Y, e, hC, fun x' C' hx' e9 => ⟨fa, ff, by rw [e1]; simp, hb _ _ hx', fun j u hj => ?_, by simp; exact h2⟩⟩
  by_cases hij : i = j
  · subst hij
    rw [List.getElem?_set_self (List.getElem?_eq_some_iff.mp hi).1] at hj
    cases hj
    rw [e9]
    exact h1 i x hi
  · rw [List.getElem?_set_ne hij] at hj
    exact h1 j u hj
theorem map_set_frb {fs : List FV} {i : Nat} {u : FV} : (fs.set i u).map frb = (fs.map frb).set i (frb u) := by
  rw [List.map_set]
section DA4
variable {l : Launch} {D : xD} {R : Room}
theorem ct_Da_order {a : Nat} {z : SD} {i k9 : Int32} {S : List va_W} (hfl : l.flags = pinnedFlags ++ [noTraceFlag]) (h : IsDa D a z S) (hr : rmOk R 7 16 246) : CtT l mDa_order none D R [.ref a, .int i, .int k9] S (QR D a (aOrder z i k9)) (ER D a (fun _ => 12) (aOrder z i k9)) := by
  obtain ⟨r1, r2, r3, r4⟩ := hr
  have hz := id h
  obtain ⟨pl, w, un, fe, dr, f, r, kp, kf, kt, c0, c1, c2, xs, ts, hs, fs, Cp, Co, Cu, Cf, Cd, T, Cs, F, rfl, hpl, ho, hk, hu, hfe, hb, hd, hok, hv, htv, hhv, hfs, hff⟩ := h
  obtain ⟨ta, ha, ft, fh, eCd, hTs, -, -, -, h3, h4⟩ := id hd
  obtain ⟨_, _, _, _, _, _, _, _, _, _, _, eCp⟩ := id hpl
  have hlen : z.1.length = ts.length := by rw [← htv, List.length_map]
  generalize hP : aOrder z i k9 = P
  unfold aOrder at hP
  refine CtT.of rfl (by decide) tkDa_order (Nat.le_of_ble_eq_true rfl) (fun A => ?_)
  refine Ex.p rfl ?_
  refine Ex.p rfl ?_
  refine Ex.cvT (Mc := mDa_knownTool) (Rc := rm 6 1 6) (As := [.int i]) (rest := []) (Sr := [Cp, sTw w pl r kp kf kt, Co, Cu, Cf, T, sHs hs, Cs, F]) (ic := 0) (jc := 0) (ci := 0) [0, 6] [1, 2, 3, 4, 5, 7, 8, 9, 10] (ct_Da_knownTool hfl hd (rm_ok _ _ _)) rfl lk_0_69 lcDa_knownTool rfl rfl rfl rfl rfl (by decide) rfl rfl rfl (by decide) ⟨by dsimp only [rm]; omega, by show 8 + (3 + 11) + 240 ≤ R.locals; omega⟩ (Nat.le_of_ble_eq_true rfl) (by dsimp only [rm]; omega) (by dsimp only [rm]; omega) ?_ ?_
  · rintro v S1 ⟨t, hi, rfl, rfl⟩
    obtain ⟨hi1, hi2⟩ := ixo_some hi
    refine Ex.sub (S' := [sDa a pl w un fe dr f, Cp, sTw w pl r kp kf kt, Co, Cu, Cf, Cd, T, sHs hs, Cs, F]) [9, 0, 1, 2, 3, 4, 10, 5, 6, 7, 8] rfl rfl ?_
    have ilt : isTl z i := ⟨hi1.1, by rw [hlen]; exact hi1.2⟩
    rw [if_pos ilt] at hP
    obtain ⟨X, C, Y, eT, hC, hset⟩ := hd.at hi2
    refine Ex.seg (S' := [sDa a pl w un fe dr f, Cp, sTw w pl r kp kf kt, Co, Cu, Cf, Cd, X, C, Y, sHs hs, Cs, F]) (by rw [eT]; simp) ?_
    refine Ex.p rfl ?_
    refine Ex.p rfl ?_
    refine Ex.gf 0 0 rfl rfl rfl ?_
    refine Ex.p rfl ?_
    refine Ex.gf 0 0 rfl rfl rfl ?_
    refine Ex.p rfl ?_
    refine Ex.cv (Mc := mPl_plan) (Rc := rm 5 15 240) (As := [.ref dr, .ref t.1]) (rest := []) (Sr := [sDa a pl w un fe dr f, sTw w pl r kp kf kt, Co, Cu, Cf, X, Y, Cs, F]) (ic := 1) (jc := 0) (ci := 4) [1, 6, 8, 10] [0, 2, 3, 4, 5, 7, 9, 11, 12] (ct_planT hpl hd hC (hok.1 _ _ hi2) ⟨Nat.le_refl _, Nat.le_refl _, by show (if _ then 0 else 15) ≤ 15; split <;> omega, by show (if _ then 0 else 240) ≤ 240; split <;> omega⟩) rfl lk_0_138 lcPl_plan rfl rfl rfl rfl rfl (by decide) rfl (by rw [eCp]; rfl) rfl (by decide) ⟨by dsimp only [rm]; omega, by show 8 + (3 + 11) + 200 ≤ R.locals; omega⟩ (Nat.le_of_ble_eq_true rfl) (by dsimp only [rm]; omega) (by dsimp only [rm]; omega) ?_
    rintro v S1 ⟨rfl, Cp', C', t', rfl, hpl', hC', hok', hpn, e9, e10⟩
    have hdn := hset t' C' hC' e9
    rw [← e9]
    obtain ⟨rh, ro, Ch, Cr, rfl, hrh, hro⟩ := hC'
    obtain ⟨ar, fr, eCr, -⟩ := id hro
    have e11 := (hok'.2.2.2.2 hpn).1
    refine Ex.sub (S' := [sDa a pl w un fe dr f, Cp', sTw w pl r kp kf kt, Co, Cu, Cf, Cd, X, (t'.1, .inr (9, [.int t'.2.1, .int (b32 t'.2.2.1), .ref rh, .ref ro, .long t'.2.2.2.2.2.1, .int (b32 t'.2.2.2.2.2.2.1)])) :: (Ch ++ Cr), Y, sHs hs, Cs, F]) [0, 9, 1, 2, 3, 4, 10, 5, 11, 6, 12, 7, 8] rfl rfl ?_
    refine Ex.seg (S' := [sDa a pl w un fe dr f, Cp', sTw w pl r kp kf kt, Co, Cu, Cf, Cd, X, [(t'.1, .inr (9, [.int t'.2.1, .int (b32 t'.2.2.1), .ref rh, .ref ro, .long t'.2.2.2.2.2.1, .int (b32 t'.2.2.2.2.2.2.1)]))], Ch, Cr, Y, sHs hs, Cs, F]) (by simp) ?_
    refine Ex.p rfl ?_
    refine Ex.gf 8 0 rfl rfl rfl ?_
    refine Ex.p rfl ?_
    refine Ex.cv (Mc := mRo_get) (Rc := rm 0 0 0) (As := [.int k9]) (rest := []) (Sr := [sDa a pl w un fe dr f, Cp', sTw w pl r kp kf kt, Co, Cu, Cf, Cd, X, [(t'.1, .inr (9, [.int t'.2.1, .int (b32 t'.2.2.1), .ref rh, .ref ro, .long t'.2.2.2.2.2.1, .int (b32 t'.2.2.2.2.2.2.1)]))], Ch, Y, sHs hs, Cs, F]) (ic := 10) (jc := 0) (ci := 5) [10] [0, 1, 2, 3, 4, 5, 6, 7, 8, 9, 11, 12, 13, 14] (ct_Ro_get hro) rfl lk_0_105 lcRo_get rfl rfl rfl rfl rfl (by decide) rfl (by rw [eCr]; rfl) rfl (by decide) ⟨by dsimp only [rm]; omega, by show 8 + (2 + 11) + 0 ≤ R.locals; omega⟩ (Nat.le_of_ble_eq_true rfl) (by dsimp only [rm]; omega) (by dsimp only [rm]; omega) ?_
    rintro v S1 ⟨rfl, rfl⟩
    refine Ex.sub (S' := [sDa a pl w un fe dr f, Cp', sTw w pl r kp kf kt, Co, Cu, Cf, Cd, X, [(t'.1, .inr (9, [.int t'.2.1, .int (b32 t'.2.2.1), .ref rh, .ref ro, .long t'.2.2.2.2.2.1, .int (b32 t'.2.2.2.2.2.2.1)]))], Ch, Cr, Y, sHs hs, Cs, F]) [0, 1, 2, 3, 4, 5, 6, 7, 8, 9, 14, 10, 11, 12, 13] rfl rfl ?_
    refine Ex.rt (Ex.iret (S' := [sDa a pl w un fe dr f, Cp', sTw w pl r kp kf kt, Co, Cu, Cf, Cd, X ++ (((t'.1, .inr (9, [.int t'.2.1, .int (b32 t'.2.2.1), .ref rh, .ref ro, .long t'.2.2.2.2.2.1, .int (b32 t'.2.2.2.2.2.2.1)])) :: (Ch ++ Cr)) ++ Y), sHs hs, Cs, F]) rfl rfl (by dsimp only [rm]; omega) (by dsimp only [rm]; omega) (by simp) ?_)
    subst hP
    exact ⟨_, rfl, by rw [e11, hhv], pl, w, un, fe, dr, f, r, kp, kf, kt, c0, c1, c2, xs, _, hs, fs, Cp', Co, Cu, Cf, Cd, _, Cs, F, rfl, hpl', ho, hk, hu, hfe, hb, hdn, hok.set hok', (by rw [List.length_set]; exact hv), (by rw [map_set_tvo hi2 e10, htv]), hhv, hfs, hff⟩
  · rintro x9 cc S1 ⟨rfl, hno, rfl⟩
    refine Et.sub (S' := [sDa a pl w un fe dr f, Cp, sTw w pl r kp kf kt, Co, Cu, Cf, Cd, T, sHs hs, Cs, F]) [9, 0, 1, 2, 3, 4, 10, 5, 6, 7, 8] rfl rfl ?_
    refine Et.leave lcDa_order.1.2.1 (by dsimp only [rm]; omega) (by dsimp only [rm]; omega) ?_
    rw [if_neg (fun q => ixo_no hno ⟨q.1, by rw [← hlen]; exact q.2⟩)] at hP
    subst hP
    exact ⟨1, rfl, rfl, hz⟩
theorem ct_Da_travel {a : Nat} {z : SD} {i : Int32} {S : List va_W} (hfl : l.flags = pinnedFlags ++ [noTraceFlag]) (h : IsDa D a z S) (hr : rmOk R 7 16 246) : CtT l mDa_travel none D R [.ref a, .int i] S (QR D a (aTravel z i)) (ER D a (fun _ => 12) (aTravel z i)) := by
  obtain ⟨r1, r2, r3, r4⟩ := hr
  have hz := id h
  obtain ⟨pl, w, un, fe, dr, f, r, kp, kf, kt, c0, c1, c2, xs, ts, hs, fs, Cp, Co, Cu, Cf, Cd, T, Cs, F, rfl, hpl, ho, hk, hu, hfe, hb, hd, hok, hv, htv, hhv, hfs, hff⟩ := h
  obtain ⟨ta, ha, ft, fh, eCd, hTs, -, -, -, h3, h4⟩ := id hd
  obtain ⟨_, _, _, _, _, _, _, _, _, _, _, eCp⟩ := id hpl
  have hlen : z.1.length = ts.length := by rw [← htv, List.length_map]
  generalize hP : aTravel z i = P
  unfold aTravel at hP
  refine CtT.of rfl (by decide) tkDa_travel (Nat.le_of_ble_eq_true rfl) (fun A => ?_)
  refine Ex.p rfl ?_
  refine Ex.p rfl ?_
  refine Ex.cvT (Mc := mDa_knownTool) (Rc := rm 6 1 6) (As := [.int i]) (rest := []) (Sr := [Cp, sTw w pl r kp kf kt, Co, Cu, Cf, T, sHs hs, Cs, F]) (ic := 0) (jc := 0) (ci := 0) [0, 6] [1, 2, 3, 4, 5, 7, 8, 9, 10] (ct_Da_knownTool hfl hd (rm_ok _ _ _)) rfl lk_0_69 lcDa_knownTool rfl rfl rfl rfl rfl (by decide) rfl rfl rfl (by decide) ⟨by dsimp only [rm]; omega, by show 8 + (3 + 11) + 240 ≤ R.locals; omega⟩ (Nat.le_of_ble_eq_true rfl) (by dsimp only [rm]; omega) (by dsimp only [rm]; omega) ?_ ?_
  · rintro v S1 ⟨t, hi, rfl, rfl⟩
    obtain ⟨hi1, hi2⟩ := ixo_some hi
    refine Ex.sub (S' := [sDa a pl w un fe dr f, Cp, sTw w pl r kp kf kt, Co, Cu, Cf, Cd, T, sHs hs, Cs, F]) [9, 0, 1, 2, 3, 4, 10, 5, 6, 7, 8] rfl rfl ?_
    have ilt : isTl z i := ⟨hi1.1, by rw [hlen]; exact hi1.2⟩
    rw [if_pos ilt] at hP
    obtain ⟨X, C, Y, eT, hC, hset⟩ := hd.at hi2
    refine Ex.seg (S' := [sDa a pl w un fe dr f, Cp, sTw w pl r kp kf kt, Co, Cu, Cf, Cd, X, C, Y, sHs hs, Cs, F]) (by rw [eT]; simp) ?_
    refine Ex.p rfl ?_
    refine Ex.p rfl ?_
    refine Ex.gf 0 0 rfl rfl rfl ?_
    refine Ex.p rfl ?_
    refine Ex.gf 0 0 rfl rfl rfl ?_
    refine Ex.p rfl ?_
    refine Ex.cv (Mc := mPl_plan) (Rc := rm 5 15 240) (As := [.ref dr, .ref t.1]) (rest := []) (Sr := [sDa a pl w un fe dr f, sTw w pl r kp kf kt, Co, Cu, Cf, X, Y, Cs, F]) (ic := 1) (jc := 0) (ci := 4) [1, 6, 8, 10] [0, 2, 3, 4, 5, 7, 9, 11, 12] (ct_planT hpl hd hC (hok.1 _ _ hi2) ⟨Nat.le_refl _, Nat.le_refl _, by show (if _ then 0 else 15) ≤ 15; split <;> omega, by show (if _ then 0 else 240) ≤ 240; split <;> omega⟩) rfl lk_0_138 lcPl_plan rfl rfl rfl rfl rfl (by decide) rfl (by rw [eCp]; rfl) rfl (by decide) ⟨by dsimp only [rm]; omega, by show 8 + (3 + 11) + 200 ≤ R.locals; omega⟩ (Nat.le_of_ble_eq_true rfl) (by dsimp only [rm]; omega) (by dsimp only [rm]; omega) ?_
    rintro v S1 ⟨rfl, Cp', C', t', rfl, hpl', hC', hok', hpn, e9, e10⟩
    have hdn := hset t' C' hC' e9
    rw [← e9]
    obtain ⟨rh, ro, Ch, Cr, rfl, hrh, hro⟩ := hC'
    have e11 := (hok'.2.2.2.2 hpn).2
    refine Ex.sub (S' := [sDa a pl w un fe dr f, Cp', sTw w pl r kp kf kt, Co, Cu, Cf, Cd, X, (t'.1, .inr (9, [.int t'.2.1, .int (b32 t'.2.2.1), .ref rh, .ref ro, .long t'.2.2.2.2.2.1, .int (b32 t'.2.2.2.2.2.2.1)])) :: (Ch ++ Cr), Y, sHs hs, Cs, F]) [0, 9, 1, 2, 3, 4, 10, 5, 11, 6, 12, 7, 8] rfl rfl ?_
    refine Ex.p rfl ?_
    refine Ex.gf 8 0 rfl rfl rfl ?_
    refine Ex.rt (Ex.lret (S' := [sDa a pl w un fe dr f, Cp', sTw w pl r kp kf kt, Co, Cu, Cf, Cd, X ++ (((t'.1, .inr (9, [.int t'.2.1, .int (b32 t'.2.2.1), .ref rh, .ref ro, .long t'.2.2.2.2.2.1, .int (b32 t'.2.2.2.2.2.2.1)])) :: (Ch ++ Cr)) ++ Y), sHs hs, Cs, F]) rfl rfl (by dsimp only [rm]; omega) (by dsimp only [rm]; omega) (by simp) ?_)
    subst hP
    exact ⟨_, rfl, by rw [e11, hhv], pl, w, un, fe, dr, f, r, kp, kf, kt, c0, c1, c2, xs, _, hs, fs, Cp', Co, Cu, Cf, Cd, _, Cs, F, rfl, hpl', ho, hk, hu, hfe, hb, hdn, hok.set hok', (by rw [List.length_set]; exact hv), (by rw [map_set_tvo hi2 e10, htv]), hhv, hfs, hff⟩
  · rintro x9 cc S1 ⟨rfl, hno, rfl⟩
    refine Et.sub (S' := [sDa a pl w un fe dr f, Cp, sTw w pl r kp kf kt, Co, Cu, Cf, Cd, T, sHs hs, Cs, F]) [9, 0, 1, 2, 3, 4, 10, 5, 6, 7, 8] rfl rfl ?_
    refine Et.leave lcDa_travel.1.2.1 (by dsimp only [rm]; omega) (by dsimp only [rm]; omega) ?_
    rw [if_neg (fun q => ixo_no hno ⟨q.1, by rw [← hlen]; exact q.2⟩)] at hP
    subst hP
    exact ⟨1, rfl, rfl, hz⟩
theorem ct_Da_byteOf {a : Nat} {z : SD} {i b9 : Int32} {S : List va_W} (hfl : l.flags = pinnedFlags ++ [noTraceFlag]) (h : IsDa D a z S) (hr : rmOk R 7 76 1206) : CtT l mDa_byteOf none D R [.ref a, .int i, .int b9] S (QR D a (aByte z i b9)) (ER D a f12 (aByte z i b9)) := by
  obtain ⟨r1, r2, r3, r4⟩ := hr
  have hz := id h
  obtain ⟨pl, w, un, fe, dr, f, r, kp, kf, kt, c0, c1, c2, xs, ts, hs, fs, Cp, Co, Cu, Cf, Cd, T, Cs, F, rfl, hpl, ho, hk, hu, hfe, hb, hd, hok, hv, htv, hhv, hfs, hff⟩ := h
  generalize hP : aByte z i b9 = P
  unfold aByte at hP
  rw [← hff, ixo_map] at hP
  refine CtT.of rfl (by decide) tkDa_byteOf (Nat.le_of_ble_eq_true rfl) (fun A => ?_)
  refine Ex.p rfl ?_
  refine Ex.p rfl ?_
  refine Ex.cvT (Mc := mDa_knownFile) (Rc := rm 6 1 6) (As := [.int i]) (rest := []) (Sr := [Cp, sTw w pl r kp kf kt, Co, Cu, Cf, Cd, T, sHs hs, F]) (ic := 0) (jc := 0) (ci := 0) [0, 9] [1, 2, 3, 4, 5, 6, 7, 8, 10] (ct_Da_knownFile hfl hfs (rm_ok _ _ _)) rfl lk_0_165 lcDa_knownFile rfl rfl rfl rfl rfl (by decide) rfl rfl rfl (by decide) ⟨by dsimp only [rm]; omega, by show 8 + (3 + 11) + 240 ≤ R.locals; omega⟩ (Nat.le_of_ble_eq_true rfl) (by dsimp only [rm]; omega) (by dsimp only [rm]; omega) ?_ ?_
  · rintro v S1 ⟨x, hi, rfl, rfl⟩
    obtain ⟨hi1, hi2⟩ := ixo_some hi
    rw [hi] at hP
    dsimp only [Option.map_some] at hP
    refine Ex.sub (S' := [sDa a pl w un fe dr f, Cp, sTw w pl r kp kf kt, Co, Cu, Cf, Cd, T, sHs hs, Cs, F]) [9, 0, 1, 2, 3, 4, 5, 6, 7, 10, 8] rfl rfl ?_
    refine Ex.p rfl ?_
    refine Ex.p rfl ?_
    refine Ex.cs0 (Mc := mDa_isByte) (Rc := rm 0 0 0) (As := [.int b9]) (rest := []) (ct_isByte) rfl lk_0_169 lcDa_isByte rfl ⟨by dsimp only [rm]; omega, by show 8 + (1 + 11) + 0 ≤ R.locals; omega⟩ (Nat.le_of_ble_eq_true rfl) (by dsimp only [rm]; omega) (by dsimp only [rm]; omega) ?_
    rintro v S1 ⟨rfl, rfl⟩
    by_cases g1 : 0 ≤ b9.toInt ∧ b9.toInt < 256
    · rw [decide_eq_true g1]
      rw [if_pos g1] at hP
      refine Ex.br rfl (fun _ => ?_) (fun c => absurd (show (1 : Int32) ≠ 0 by decide) c)
      have eb := nI_nat g1.1
      generalize hbn : b9.toInt.toNat = bn at hP eb
      subst eb
      obtain ⟨X, C, Y, eF, hC, hset⟩ := hfs.at hi2
      obtain ⟨rb, Cb, eC, ⟨_, _, _, w1, w2, w3, w4, w5, w6⟩, hro, -⟩ := id hC
      rw [List.length_map] at w1 w2
      have hgrow : rcap x.2.2.2 x.2.2.1.length - x.2.2.2 ≤ 600 := by
        unfold rcap
        split <;> omega
      refine Ex.seg (S' := [sDa a pl w un fe dr f, Cp, sTw w pl r kp kf kt, Co, Cu, Cf, Cd, T, sHs hs, Cs, X, C, Y]) (by rw [eF]; simp) ?_
      refine Ex.p rfl ?_
      refine Ex.p rfl ?_
      refine Ex.cv (Mc := mSf_push) (Rc := rm 3 ((rcap x.2.2.2 x.2.2.1.length - x.2.2.2) / 8) (2 * (rcap x.2.2.2 x.2.2.1.length - x.2.2.2))) (As := [.int (nI bn)]) (rest := []) (Sr := [sDa a pl w un fe dr f, Cp, sTw w pl r kp kf kt, Co, Cu, Cf, Cd, T, sHs hs, Cs, X, Y]) (ic := 11) (jc := 0) (ci := 6) [11] [0, 1, 2, 3, 4, 5, 6, 7, 8, 9, 10, 12] (ct_Sf_push hC (by omega) (rm_ok _ _ _)) rfl lk_0_174 lcSf_push rfl rfl rfl rfl rfl (by decide) rfl (by rw [eC]; rfl) rfl (by decide) ⟨by dsimp only [rm]; omega, by show 8 + (2 + 11) + 120 ≤ R.locals; omega⟩ (Nat.le_of_ble_eq_true rfl) (by dsimp only [rm]; omega) (by dsimp only [rm]; omega) ?_
      rintro v S1 h9
      rcases h9 with ⟨h10, rfl, rfl⟩ | ⟨h10, rfl, C', rfl, hC'⟩
      · rw [if_neg (by show ¬ x.2.2.1.length < 300; omega)] at hP
        refine Ex.sub (S' := [sDa a pl w un fe dr f, Cp, sTw w pl r kp kf kt, Co, Cu, Cf, Cd, T, sHs hs, Cs, X, C, Y]) [0, 1, 2, 3, 4, 5, 6, 7, 8, 9, 10, 12, 11] rfl rfl ?_
        refine Ex.rt (Ex.zret (S' := [sDa a pl w un fe dr f, Cp, sTw w pl r kp kf kt, Co, Cu, Cf, Cd, T, sHs hs, Cs, F]) rfl rfl (Or.inl rfl) (by dsimp only [rm]; omega) (by dsimp only [rm]; omega) (by rw [eF]; simp) ?_)
        subst hP
        exact ⟨_, rfl, rfl, hz⟩
      · rw [if_pos (by show x.2.2.1.length < 300; omega)] at hP
        refine Ex.sub (S' := [sDa a pl w un fe dr f, Cp, sTw w pl r kp kf kt, Co, Cu, Cf, Cd, T, sHs hs, Cs, X, C', Y]) [0, 1, 2, 3, 4, 5, 6, 7, 8, 9, 10, 12, 11] rfl rfl ?_
        refine Ex.rt (Ex.zret (S' := [sDa a pl w un fe dr f, Cp, sTw w pl r kp kf kt, Co, Cu, Cf, Cd, T, sHs hs, Cs, X ++ (C' ++ Y)]) rfl rfl (Or.inr rfl) (by dsimp only [rm]; omega) (by dsimp only [rm]; omega) (by simp) ?_)
        subst hP
        exact ⟨_, rfl, rfl, pl, w, un, fe, dr, f, r, kp, kf, kt, c0, c1, c2, xs, ts, hs, _, Cp, Co, Cu, Cf, Cd, T, Cs, _, rfl, hpl, ho, hk, hu, hfe, hb, hd, hok, hv, htv, hhv, hset (x.1, x.2.1, x.2.2.1 ++ [bn], rcap x.2.2.2 x.2.2.1.length) C' hC' rfl, (by rw [map_set_frb, hff])⟩
    · rw [decide_eq_false g1]
      rw [if_neg g1] at hP
      refine Ex.br rfl (fun c => absurd rfl c) (fun _ => ?_)
      refine Ex.thr hfl rfl rfl rfl rfl rfl rfl rfl thrIA (by decide +kernel) lcDa_byteOf.1.2.1 (by first | omega | (dsimp only [rm]; omega)) (by first | omega | (dsimp only [rm]; omega)) (by first | omega | (dsimp only [rm]; omega)) (by first | omega | (dsimp only [rm]; omega)) (by omega) (by simp [Value.category]; omega) ?_
      subst hP
      exact ⟨2, rfl, rfl, hz⟩
  · rintro x9 cc S1 ⟨rfl, hno, rfl⟩
    refine Et.sub (S' := [sDa a pl w un fe dr f, Cp, sTw w pl r kp kf kt, Co, Cu, Cf, Cd, T, sHs hs, Cs, F]) [9, 0, 1, 2, 3, 4, 5, 6, 7, 10, 8] rfl rfl ?_
    refine Et.leave lcDa_byteOf.1.2.1 (by dsimp only [rm]; omega) (by dsimp only [rm]; omega) ?_
    rw [hno] at hP
    subst hP
    exact ⟨1, rfl, rfl, hz⟩
theorem ct_Da_sum {a : Nat} {z : SD} {i : Int32} {S : List va_W} (hfl : l.flags = pinnedFlags ++ [noTraceFlag]) (h : IsDa D a z S) (hr : rmOk R 7 1 6) : CtT l mDa_sum none D R [.ref a, .int i] S (QR D a (aSum z i)) (ER D a (fun _ => 12) (aSum z i)) := by
  obtain ⟨r1, r2, r3, r4⟩ := hr
  have hz := id h
  obtain ⟨pl, w, un, fe, dr, f, r, kp, kf, kt, c0, c1, c2, xs, ts, hs, fs, Cp, Co, Cu, Cf, Cd, T, Cs, F, rfl, hpl, ho, hk, hu, hfe, hb, hd, hok, hv, htv, hhv, hfs, hff⟩ := h
  generalize hP : aSum z i = P
  unfold aSum at hP
  rw [← hff, ixo_map] at hP
  refine CtT.of rfl (by decide) tkDa_sum (Nat.le_of_ble_eq_true rfl) (fun A => ?_)
  refine Ex.p rfl ?_
  refine Ex.p rfl ?_
  refine Ex.cvT (Mc := mDa_knownFile) (Rc := rm 6 1 6) (As := [.int i]) (rest := []) (Sr := [Cp, sTw w pl r kp kf kt, Co, Cu, Cf, Cd, T, sHs hs, F]) (ic := 0) (jc := 0) (ci := 0) [0, 9] [1, 2, 3, 4, 5, 6, 7, 8, 10] (ct_Da_knownFile hfl hfs (rm_ok _ _ _)) rfl lk_0_165 lcDa_knownFile rfl rfl rfl rfl rfl (by decide) rfl rfl rfl (by decide) ⟨by dsimp only [rm]; omega, by show 8 + (3 + 11) + 240 ≤ R.locals; omega⟩ (Nat.le_of_ble_eq_true rfl) (by dsimp only [rm]; omega) (by dsimp only [rm]; omega) ?_ ?_
  · rintro v S1 ⟨x, hi, rfl, rfl⟩
    obtain ⟨hi1, hi2⟩ := ixo_some hi
    rw [hi] at hP
    dsimp only [Option.map_some] at hP
    refine Ex.sub (S' := [sDa a pl w un fe dr f, Cp, sTw w pl r kp kf kt, Co, Cu, Cf, Cd, T, sHs hs, Cs, F]) [9, 0, 1, 2, 3, 4, 5, 6, 7, 10, 8] rfl rfl ?_
    obtain ⟨X, C, Y, eF, hC, -⟩ := hfs.at hi2
    obtain ⟨rb, Cb, rfl, -⟩ := id hC
    refine Ex.seg (S' := [sDa a pl w un fe dr f, Cp, sTw w pl r kp kf kt, Co, Cu, Cf, Cd, T, sHs hs, Cs, X, (x.1, .inr (6, [.int (nI x.2.1), .ref rb, .int (nI (fsum x.2.2.1))])) :: Cb, Y]) (by rw [eF]; simp) ?_
    refine Ex.gf 11 0 rfl rfl rfl ?_
    refine Ex.p rfl ?_
    refine Ex.rt (Ex.lret (S' := [sDa a pl w un fe dr f, Cp, sTw w pl r kp kf kt, Co, Cu, Cf, Cd, T, sHs hs, Cs, F]) rfl rfl (by dsimp only [rm]; omega) (by dsimp only [rm]; omega) (by rw [eF]; simp) ?_)
    subst hP
    exact ⟨_, rfl, rfl, hz⟩
  · rintro x9 cc S1 ⟨rfl, hno, rfl⟩
    refine Et.sub (S' := [sDa a pl w un fe dr f, Cp, sTw w pl r kp kf kt, Co, Cu, Cf, Cd, T, sHs hs, Cs, F]) [9, 0, 1, 2, 3, 4, 5, 6, 7, 10, 8] rfl rfl ?_
    refine Et.leave lcDa_sum.1.2.1 (by dsimp only [rm]; omega) (by dsimp only [rm]; omega) ?_
    rw [hno] at hP
    subst hP
    exact ⟨1, rfl, rfl, hz⟩
end DA4
end
section
/-! DrillArchive: write, read -/
noncomputable def aWrite (z : SD) (L i : Int32) : AR := if 0 ≤ i.toInt ∧ (0 ≤ (L / 10).toInt ∧ (L / 10).toInt ≤ 7) ∧ (0 ≤ (L - L / 10 * 10).toInt ∧ (L - L / 10 * 10).toInt ≤ 7) ∧ L / 10 ≤ L - L / 10 * 10 then (.inr (.int (rget (textD (L / 10) (L - L / 10 * 10) z.1 z.2.1) i)), z) else (.inl 1, z)

section DA5
variable {l : Launch} {D : xD} {R : Room}
theorem text_grow {kf kt : Int32} {ts : List TV} {hs : List (Nat × HV)} {c0 : Nat} (hf : layOK kf) (ht : layOK kt) (hok : DrOK ts hs) (hl : ts.length ≤ 10) (hh : hs.length ≤ 60) (hc : c0 ≤ 10000) : (textD kf kt (ts.map tvo) (hs.map (fun h => h.2))).length ≤ 2545 ∧ capN c0 0 (textD kf kt (ts.map tvo) (hs.map (fun h => h.2))).length ≤ max c0 5090 := by
  have h1 : (textD kf kt (ts.map tvo) (hs.map (fun h => h.2))).length ≤ 2545 := textD_len hf ht (by rw [List.length_map]; exact hl) (fun t h9 => by
    obtain ⟨u, hu, rfl⟩ := List.mem_map.mp h9
    obtain ⟨i, hi⟩ := List.mem_iff_getElem?.mp hu
    exact (hok.1 i u hi).2.2.2.1) (by rw [List.length_map]; exact hh)
  exact ⟨h1, capN_le _ _ _ _ (by omega) (by omega)⟩
theorem ct_Da_write {a : Nat} {z : SD} {L i : Int32} {S : List va_W} (hfl : l.flags = pinnedFlags ++ [noTraceFlag]) (h : IsDa D a z S) (hr : rmOk R 8 786 12580) : CtT l mDa_write none D R [.ref a, .int L, .int i] S (QR D a (aWrite z L i)) (ER D a (fun _ => 12) (aWrite z L i)) := by
  obtain ⟨r1, r2, r3, r4⟩ := hr
  have hz := id h
  obtain ⟨pl, w, un, fe, dr, f, r, kp, kf, kt, c0, c1, c2, xs, ts, hs, fs, Cp, Co, Cu, Cf, Cd, T, Cs, F, rfl, hpl, ho, hk, hu, hfe, hb, hd, hok, hv, htv, hhv, hfs, hff⟩ := h
  obtain ⟨ta, ha, ft, fh, eCd, hTs, -, -, -, h3, h4⟩ := id hd
  obtain ⟨ar, fx, eCo, w1, w2, w3, w4, w5, w6⟩ := id ho
  generalize hP : aWrite z L i = P
  unfold aWrite at hP
  refine CtT.of rfl (by decide) tkDa_write (Nat.le_of_ble_eq_true rfl) (fun A => ?_)
  refine Ex.p rfl ?_
  refine Ex.p rfl ?_
  refine Ex.idiv rfl (by decide) ?_
  refine Ex.p rfl ?_
  refine Ex.p rfl ?_
  refine Ex.p rfl ?_
  refine Ex.irem rfl (by decide) ?_
  generalize ed : L / (Int8.ofInt 10).toInt32 = q
  have ed : L / 10 = q := ed
  generalize em : L - q * (Int8.ofInt 10).toInt32 = m
  have em : L - q * 10 = m := em
  rw [ed, em] at hP
  refine Ex.p rfl ?_
  refine Ex.p rfl ?_
  have s36 : ¬ (0 ≤ i.toInt ∧ (0 ≤ q.toInt ∧ q.toInt ≤ 7) ∧ (0 ≤ m.toInt ∧ m.toInt ≤ 7) ∧ q ≤ m) → ∀ lv9 : List (Nat × Value), Ex l mDa_write D R A (xQT D A (QR D a P) (ER D a (fun _ => 12) P)) R.cells R.slots 36 lv9 [] [sDa a pl w un fe dr f, Cp, sTw w pl r kp kf kt, Co, Cu, Cf, Cd, T, sHs hs, Cs, F] 0 0 := by
    intro g lv9
    rw [if_neg g] at hP
    refine Ex.thr hfl rfl rfl rfl rfl rfl rfl rfl thrIO (by decide +kernel) lcDa_write.1.2.1 (by first | omega | (dsimp only [rm]; omega)) (by first | omega | (dsimp only [rm]; omega)) (by first | omega | (dsimp only [rm]; omega)) (by first | omega | (dsimp only [rm]; omega)) (by omega) (by simp [Value.category]; omega) ?_
    subst hP
    exact ⟨1, rfl, rfl, hz⟩
  refine Ex.br rfl (fun c => ?_) (fun c => ?_)
  · have c : i < 0 := c
    rw [Int32.lt_iff_toInt_lt] at c
    have c : i.toInt < 0 := c
    exact s36 (fun q => by omega) _
  · have c : ¬ i < 0 := c
    rw [Int32.lt_iff_toInt_lt] at c
    have c : ¬ i.toInt < 0 := c
    refine Ex.p rfl ?_
    refine Ex.cs0 (Mc := mDa_isLayer) (Rc := rm 0 0 0) (As := [.int q]) (rest := []) (ct_isLayer) rfl lk_0_73 lcDa_isLayer rfl ⟨by dsimp only [rm]; omega, by show 8 + (1 + 11) + 0 ≤ R.locals; omega⟩ (Nat.le_of_ble_eq_true rfl) (by dsimp only [rm]; omega) (by dsimp only [rm]; omega) ?_
    rintro v S1 ⟨rfl, rfl⟩
    by_cases g1 : 0 ≤ q.toInt ∧ q.toInt ≤ 7
    · rw [decide_eq_true (show 0 ≤ q.toInt ∧ q.toInt ≤ 7 from g1)]
      refine Ex.br rfl (fun c => absurd c (show (1 : Int32) ≠ 0 by decide)) (fun _ => ?_)
      refine Ex.p rfl ?_
      refine Ex.cs0 (Mc := mDa_isLayer) (Rc := rm 0 0 0) (As := [.int m]) (rest := []) (ct_isLayer) rfl lk_0_73 lcDa_isLayer rfl ⟨by dsimp only [rm]; omega, by show 8 + (1 + 11) + 0 ≤ R.locals; omega⟩ (Nat.le_of_ble_eq_true rfl) (by dsimp only [rm]; omega) (by dsimp only [rm]; omega) ?_
      rintro v S1 ⟨rfl, rfl⟩
      by_cases g2 : 0 ≤ m.toInt ∧ m.toInt ≤ 7
      · rw [decide_eq_true (show 0 ≤ m.toInt ∧ m.toInt ≤ 7 from g2)]
        refine Ex.br rfl (fun c => absurd c (show (1 : Int32) ≠ 0 by decide)) (fun _ => ?_)
        refine Ex.p rfl ?_
        refine Ex.p rfl ?_
        refine Ex.br rfl (fun c3 => ?_) (fun c3 => ?_)
        · have c3 : q ≤ m := c3
          rw [if_pos ⟨by omega, g1, g2, c3⟩] at hP
          refine Ex.p rfl ?_
          refine Ex.gf 0 0 rfl rfl rfl ?_
          refine Ex.p rfl ?_
          refine Ex.gf 0 0 rfl rfl rfl ?_
          refine Ex.p rfl ?_
          refine Ex.p rfl ?_
          by_cases hkk : kp = true ∧ kf = q ∧ kt = m
          · obtain ⟨rfl, rfl, rfl⟩ := hkk
            refine Ex.cv (Mc := mTw_textOf) (Rc := rm 0 0 0) (As := [.ref dr, .int kf, .int kt]) (rest := []) (Sr := [sDa a pl w un fe dr f, Cu, Cf, Cs, F]) (ic := 2) (jc := 0) (ci := 8) [2, 3, 1, 6, 7, 8] [0, 4, 5, 9, 10] (ct_Tw_textOf_kept (c := 0) (p := pl) (r := r) (S0 := [Co, Cp, Cd, T, sHs hs])) rfl lk_0_101 lcTw_textOf rfl rfl rfl rfl rfl (by decide) rfl rfl rfl (by decide) ⟨by dsimp only [rm]; omega, by show 8 + (6 + 11) + 0 ≤ R.locals; omega⟩ (Nat.le_of_ble_eq_true rfl) (by dsimp only [rm]; omega) (by dsimp only [rm]; omega) ?_
            rintro v S1 ⟨rfl, rfl⟩
            refine Ex.sub (S' := [sDa a pl w un fe dr f, Cp, sTw w pl r true kf kt, Co, Cu, Cf, Cd, T, sHs hs, Cs, F]) [0, 7, 5, 6, 1, 2, 8, 9, 10, 3, 4] rfl rfl ?_
            refine Ex.p rfl ?_
            refine Ex.cv (Mc := mRo_get) (Rc := rm 0 0 0) (As := [.int i]) (rest := []) (Sr := [sDa a pl w un fe dr f, Cp, sTw w pl r true kf kt, Cu, Cf, Cd, T, sHs hs, Cs, F]) (ic := 3) (jc := 0) (ci := 5) [3] [0, 1, 2, 4, 5, 6, 7, 8, 9, 10] (ct_Ro_get ho) rfl lk_0_105 lcRo_get rfl rfl rfl rfl rfl (by decide) rfl (by rw [eCo]; rfl) rfl (by decide) ⟨by dsimp only [rm]; omega, by show 8 + (2 + 11) + 0 ≤ R.locals; omega⟩ (Nat.le_of_ble_eq_true rfl) (by dsimp only [rm]; omega) (by dsimp only [rm]; omega) ?_
            rintro v S1 ⟨rfl, rfl⟩
            refine Ex.sub (S' := [sDa a pl w un fe dr f, Cp, sTw w pl r true kf kt, Co, Cu, Cf, Cd, T, sHs hs, Cs, F]) [0, 1, 2, 10, 3, 4, 5, 6, 7, 8, 9] rfl rfl ?_
            refine Ex.rt (Ex.iret rfl rfl (by dsimp only [rm]; omega) (by dsimp only [rm]; omega) rfl ?_)
            subst hP
            exact ⟨_, rfl, by rw [hk rfl], hz⟩
          · obtain ⟨tg1, tg2⟩ := text_grow (c0 := c0) g1 g2 hok h3 h4 w4
            have hup := upl_len ts
            have hge := capN_ge (textD q m (ts.map tvo) (hs.map (fun h => h.2))).length c0 0
            refine Ex.cv (Mc := mTw_textOf) (Rc := rm 7 (15 * upl ts + (capN c0 0 (textD q m (ts.map tvo) (hs.map (fun h => h.2))).length - c0) / 8) (240 * upl ts + 2 * (capN c0 0 (textD q m (ts.map tvo) (hs.map (fun h => h.2))).length - c0))) (As := [.ref dr, .int q, .int m]) (rest := []) (Sr := [sDa a pl w un fe dr f, Cu, Cf, Cs, F]) (ic := 2) (jc := 0) (ci := 8) [2, 3, 1, 6, 7, 8] [0, 4, 5, 9, 10] (ct_Tw_textOf ho hpl hd hok g1 g2 hkk (rm_ok _ _ _)) rfl lk_0_101 lcTw_textOf rfl rfl rfl rfl rfl (by decide) rfl rfl rfl (by decide) ⟨by dsimp only [rm]; omega, by show 8 + (6 + 11) + 280 ≤ R.locals; omega⟩ (Nat.le_of_ble_eq_true rfl) (by dsimp only [rm]; omega) (by dsimp only [rm]; omega) ?_
            rintro v S1 ⟨rfl, Co', Cp', T', ts', rfl, ho', hpl', hd', hok', etv, eup⟩
            obtain ⟨ar', fx', eCo', -⟩ := id ho'
            refine Ex.sub (S' := [sDa a pl w un fe dr f, Cp', sTw w pl r true q m, Co', Cu, Cf, Cd, T', sHs hs, Cs, F]) [0, 7, 5, 6, 1, 2, 8, 9, 10, 3, 4] rfl rfl ?_
            refine Ex.p rfl ?_
            refine Ex.cv (Mc := mRo_get) (Rc := rm 0 0 0) (As := [.int i]) (rest := []) (Sr := [sDa a pl w un fe dr f, Cp', sTw w pl r true q m, Cu, Cf, Cd, T', sHs hs, Cs, F]) (ic := 3) (jc := 0) (ci := 5) [3] [0, 1, 2, 4, 5, 6, 7, 8, 9, 10] (ct_Ro_get ho') rfl lk_0_105 lcRo_get rfl rfl rfl rfl rfl (by decide) rfl (by rw [eCo']; rfl) rfl (by decide) ⟨by dsimp only [rm]; omega, by show 8 + (2 + 11) + 0 ≤ R.locals; omega⟩ (Nat.le_of_ble_eq_true rfl) (by dsimp only [rm]; omega) (by dsimp only [rm]; omega) ?_
            rintro v S1 ⟨rfl, rfl⟩
            refine Ex.sub (S' := [sDa a pl w un fe dr f, Cp', sTw w pl r true q m, Co', Cu, Cf, Cd, T', sHs hs, Cs, F]) [0, 1, 2, 10, 3, 4, 5, 6, 7, 8, 9] rfl rfl ?_
            refine Ex.rt (Ex.iret rfl rfl (by dsimp only [rm]; omega) (by dsimp only [rm]; omega) rfl ?_)
            subst hP
            exact ⟨_, rfl, by rw [htv, hhv], pl, w, un, fe, dr, f, r, true, q, m, _, c1, c2, _, ts', hs, fs, Cp', Co', Cu, Cf, Cd, T', Cs, F, rfl, hpl', ho', (fun _ => by rw [htv, hhv]), hu, hfe, hb, hd', hok', (by have := congrArg List.length etv; rw [List.length_map, List.length_map] at this; rw [this]; exact hv), (by rw [etv, htv]), hhv, hfs, hff⟩
        · have c3 : ¬ q ≤ m := c3
          exact s36 (fun g => c3 g.2.2.2) _
      · rw [decide_eq_false (show ¬ (0 ≤ m.toInt ∧ m.toInt ≤ 7) from g2)]
        exact Ex.br rfl (fun _ => s36 (fun g => g2 g.2.2.1) _) (fun c => absurd rfl c)
    · rw [decide_eq_false (show ¬ (0 ≤ q.toInt ∧ q.toInt ≤ 7) from g1)]
      exact Ex.br rfl (fun _ => s36 (fun g => g1 g.2.1) _) (fun c => absurd rfl c)
end DA5
end
section
/-! DrillArchive: read, open_, clear, its start -/
def rdQ (D : xD) (a : Nat) (z : SD) (v : Option Value) (S : List va_W) : Prop := ∃ r, Rn z.2.2.1 rs0 0 r ∧ match r with
  | .inl p => v = some (.int (-1 - nI p)) ∧ IsDa D a z S
  | .inr q => v = some (.int (nI q.2.length)) ∧ IsDa D a (q.1, q.2, [], z.2.2.2) S
def aOpn (z : SD) : AR := match tkArch z.2.2.2.1 with
  | some fl => (.inr (.int (nI fl.length)), z.1, z.2.1, z.2.2.1, [], fl)
  | none => (.inr (.int (-1)), z.1, z.2.1, z.2.2.1, [], z.2.2.2.2)
section DA6
variable {l : Launch} {D : xD} {R : Room}
theorem ct_Da_read {a : Nat} {z : SD} {S : List va_W} (h : IsDa D a z S) (hr : rmOk R 8 547 8138) : Ct l mDa_read D R [.ref a] S (rdQ D a z) := by
  obtain ⟨r1, r2, r3, r4⟩ := hr
  have hz := id h
  obtain ⟨pl, w, un, fe, dr, f, r, kp, kf, kt, c0, c1, c2, xs, ts, hs, fs, Cp, Co, Cu, Cf, Cd, T, Cs, F, rfl, hpl, ho, hk, hu, hfe, hb, hd, hok, hv, htv, hhv, hfs, hff⟩ := h
  obtain ⟨ar, fx, eCu, w1, w2, w3, w4, w5, w6⟩ := id hu
  refine Ct.of rfl (by decide) tkDa_read (Nat.le_of_ble_eq_true rfl) (fun A => ?_)
  refine Ex.new (ci := 1) (N := 4) rfl rfl (by omega) (by omega) (fun d => ?_)
  refine Ex.p rfl ?_
  refine Ex.ciN (Mc := mDr_init) (Rc := rm 1 2 70) (As := []) (rest := [.ref d]) (Sr := [sDa a pl w un fe dr f, Cp, sTw w pl r kp kf kt, Co, Cu, Cf, Cd, T, sHs hs, Cs, F]) [11] [0, 1, 2, 3, 4, 5, 6, 7, 8, 9, 10] (ct_Dr_init (rm_ok _ _ _)) rfl ln_0_39 lcDr_init rfl rfl rfl rfl rfl (by decide) ⟨by dsimp only [rm]; omega, by show 8 + (1 + 11) + 40 ≤ R.locals; omega⟩ (Nat.le_of_ble_eq_true rfl) (by dsimp only [rm]; omega) (by dsimp only [rm]; omega) ?_
  rintro v S1 ⟨rfl, Cn, rfl, hdn⟩
  refine Ex.p rfl ?_
  refine Ex.new (ci := 7) (N := 9) rfl rfl (by dsimp only [rm]; omega) (by dsimp only [rm]; omega) (fun b => ?_)
  refine Ex.p rfl ?_
  refine Ex.p rfl ?_
  refine Ex.gf 0 0 rfl rfl rfl ?_
  refine Ex.p rfl ?_
  refine Ex.ci (Mc := mTr_init) (Rc := rm 1 0 0) (As := [.ref un, .ref d]) (rest := [.ref b]) (Sr := [sDa a pl w un fe dr f, Cp, sTw w pl r kp kf kt, Co, Cu, Cf, Cd, T, sHs hs, Cs, F, Cn]) [12] [0, 1, 2, 3, 4, 5, 6, 7, 8, 9, 10, 11] (ct_Tr_init (rm_ok _ _ _)) rfl lk_0_114 lcTr_init rfl rfl rfl rfl rfl (by decide) ⟨by dsimp only [rm]; omega, by show 8 + (3 + 11) + 40 ≤ R.locals; omega⟩ (Nat.le_of_ble_eq_true rfl) (by dsimp only [rm]; omega) (by dsimp only [rm]; omega) ?_
  rintro v S1 ⟨rfl, rfl⟩
  refine Ex.seg (S' := [sDa a pl w un fe dr f, Cp, sTw w pl r kp kf kt, Co, Cu, Cf, Cd, T, sHs hs, Cs, F, Cn, sTr b un d 0 0 0 (-1) 0 0 0, [], []]) (by simp) ?_
  refine Ex.cv (Mc := mTr_firstWrong) (Rc := rm 7 543 8055) (As := []) (rest := []) (Sr := [sDa a pl w un fe dr f, Cp, sTw w pl r kp kf kt, Co, Cf, Cd, T, sHs hs, Cs, F]) (ic := 12) (jc := 0) (ci := 7) [12, 4, 11, 13, 14] [0, 1, 2, 3, 5, 6, 7, 8, 9, 10] (ct_Tr_firstWrong hu hdn (rm_ok _ _ _)) rfl lk_0_117 lcTr_firstWrong rfl rfl rfl rfl rfl (by decide) rfl rfl rfl (by decide) ⟨by dsimp only [rm]; omega, by show 8 + (2 + 11) + 280 ≤ R.locals; omega⟩ (Nat.le_of_ble_eq_true rfl) (by dsimp only [rm]; omega) (by dsimp only [rm]; omega) ?_
  rintro v S1 h9
  rcases h9 with ⟨rfl, C9, ts', hs', Cd', T', rfl, hd', hok', hv', hR⟩ | ⟨p, C9, C1, C2, C3, rfl, rfl, hp, hR⟩
  · refine Ex.sub (S' := [sDa a pl w un fe dr f, Cp, sTw w pl r kp kf kt, Co, Cu, Cf, Cd', T', sHs hs', Cs, F]) [0, 1, 2, 3, 11, 4, 12, 13, 14, 8, 9] rfl rfl ?_
    obtain ⟨ta', ha', ft', fh', eCd', -, -, -, -, h3', h4'⟩ := id hd'
    refine Ex.p rfl ?_
    refine Ex.p rfl ?_
    refine Ex.p rfl ?_
    refine Ex.br rfl (fun _ => ?_) (fun c => absurd rfl c)
    refine Ex.p rfl ?_
    refine Ex.p rfl ?_
    refine Ex.pf 0 0 rfl rfl rfl rfl rfl rfl ?_
    refine Ex.p rfl ?_
    refine Ex.gf 0 0 rfl rfl rfl ?_
    refine Ex.cv (Mc := mRo_empty) (Rc := rm 0 0 0) (As := []) (rest := []) (Sr := [sDa a pl w un fe d f, Cp, sTw w pl r kp kf kt, Co, Cf, Cd', T', sHs hs', Cs, F]) (ic := 4) (jc := 0) (ci := 5) [4] [0, 1, 2, 3, 5, 6, 7, 8, 9, 10] (ct_Ro_empty hu) rfl lk_0_121 lcRo_empty rfl rfl rfl rfl rfl (by decide) rfl (by rw [eCu]; rfl) rfl (by decide) ⟨by dsimp only [rm]; omega, by show 8 + (1 + 11) + 0 ≤ R.locals; omega⟩ (Nat.le_of_ble_eq_true rfl) (by dsimp only [rm]; omega) (by dsimp only [rm]; omega) ?_
    rintro v S1 ⟨rfl, Cu', rfl, hu'⟩
    refine Ex.sub (S' := [sDa a pl w un fe d f, Cp, sTw w pl r kp kf kt, Co, Cu', Cf, Cd', T', sHs hs', Cs, F]) [0, 1, 2, 3, 10, 4, 5, 6, 7, 8, 9] rfl rfl ?_
    refine Ex.p rfl ?_
    refine Ex.gf 0 0 rfl rfl rfl ?_
    refine Ex.cv (Mc := mTw_forget) (Rc := rm 0 0 0) (As := []) (rest := []) (Sr := [sDa a pl w un fe d f, Cp, Co, Cu', Cf, Cd', T', sHs hs', Cs, F]) (ic := 2) (jc := 0) (ci := 8) [2] [0, 1, 3, 4, 5, 6, 7, 8, 9, 10] (ct_Tw_forget) rfl lk_0_62 lcTw_forget rfl rfl rfl rfl rfl (by decide) rfl rfl rfl (by decide) ⟨by dsimp only [rm]; omega, by show 8 + (1 + 11) + 0 ≤ R.locals; omega⟩ (Nat.le_of_ble_eq_true rfl) (by dsimp only [rm]; omega) (by dsimp only [rm]; omega) ?_
    rintro v S1 ⟨rfl, rfl⟩
    refine Ex.sub (S' := [sDa a pl w un fe d f, Cp, sTw w pl r false kf kt, Co, Cu', Cf, Cd', T', sHs hs', Cs, F]) [0, 1, 10, 2, 3, 4, 5, 6, 7, 8, 9] rfl rfl ?_
    refine Ex.p rfl ?_
    refine Ex.gf 0 0 rfl rfl rfl ?_
    refine Ex.gf 6 0 rfl (by rw [eCd']; rfl) rfl ?_
    refine Ex.iret rfl rfl (by dsimp only [rm]; omega) (by dsimp only [rm]; omega) rfl ?_
    exact ⟨_, hR, by rw [List.length_map], pl, w, un, fe, d, f, r, false, kf, kt, c0, _, c2, xs, ts', hs', fs, Cp, Co, Cu', Cf, Cd', T', Cs, F, rfl, hpl, ho, (fun c => by cases c), hu', hfe, hb, hd', hok', hv', rfl, rfl, hfs, hff⟩
  · refine Ex.sub (S' := [sDa a pl w un fe dr f, Cp, sTw w pl r kp kf kt, Co, Cu, Cf, Cd, T, sHs hs, Cs, F]) [0, 1, 2, 3, 11, 4, 5, 6, 7, 8, 9] rfl rfl ?_
    refine Ex.p rfl ?_
    refine Ex.p rfl ?_
    refine Ex.p rfl ?_
    refine Ex.br rfl (fun c => ?_) (fun _ => ?_)
    · have c := congrArg Int32.toInt c
      rw [nI_toInt (by omega), show (Int32.ofInt (-1)).toInt = -1 from rfl] at c
      omega
    · refine Ex.p rfl ?_
      refine Ex.p rfl ?_
      refine Ex.p rfl ?_
      refine Ex.iret rfl rfl (by dsimp only [rm]; omega) (by dsimp only [rm]; omega) rfl ?_
      exact ⟨_, hR, rfl, hz⟩
theorem ct_Da_open {a : Nat} {z : SD} {S : List va_W} (h : IsDa D a z S) (hr : rmOk R 6 642 9610) : Ct l mDa_open D R [.ref a] S (QR D a (aOpn z)) := by
  obtain ⟨r1, r2, r3, r4⟩ := hr
  obtain ⟨pl, w, un, fe, dr, f, r, kp, kf, kt, c0, c1, c2, xs, ts, hs, fs, Cp, Co, Cu, Cf, Cd, T, Cs, F, rfl, hpl, ho, hk, hu, hfe, hb, hd, hok, hv, htv, hhv, hfs, hff⟩ := h
  obtain ⟨ar, fx, eCf, w1, w2, w3, w4, w5, w6⟩ := id hfe
  generalize hP : aOpn z = P
  unfold aOpn at hP
  refine Ct.of rfl (by decide) tkDa_open (Nat.le_of_ble_eq_true rfl) (fun A => ?_)
  refine Ex.new (ci := 2) (N := 2) rfl rfl (by omega) (by omega) (fun g => ?_)
  refine Ex.p rfl ?_
  refine Ex.ciN (Mc := mFs_init) (Rc := rm 1 1 8) (As := []) (rest := [.ref g]) (Sr := [sDa a pl w un fe dr f, Cp, sTw w pl r kp kf kt, Co, Cu, Cf, Cd, T, sHs hs, Cs, F]) [11] [0, 1, 2, 3, 4, 5, 6, 7, 8, 9, 10] (ct_Fs_init (rm_ok _ _ _)) rfl ln_0_46 lcFs_init rfl rfl rfl rfl rfl (by decide) ⟨by dsimp only [rm]; omega, by show 8 + (1 + 11) + 40 ≤ R.locals; omega⟩ (Nat.le_of_ble_eq_true rfl) (by dsimp only [rm]; omega) (by dsimp only [rm]; omega) ?_
  rintro v S1 ⟨rfl, Cn, rfl, hfn⟩
  obtain ⟨fa, ffn, eCn, -⟩ := id hfn
  refine Ex.seg (S' := [sDa a pl w un fe dr f, Cp, sTw w pl r kp kf kt, Co, Cu, Cf, Cd, T, sHs hs, Cs, F, Cn, []]) (by simp) ?_
  refine Ex.p rfl ?_
  refine Ex.p rfl ?_
  refine Ex.p rfl ?_
  refine Ex.gf 0 0 rfl rfl rfl ?_
  refine Ex.cv (Mc := mFs_take) (Rc := rm 5 640 9600) (As := [.ref fe]) (rest := []) (Sr := [sDa a pl w un fe dr f, Cp, sTw w pl r kp kf kt, Co, Cu, Cd, T, sHs hs, Cs, F]) (ic := 11) (jc := 0) (ci := 2) [11, 12, 5] [0, 1, 2, 3, 4, 6, 7, 8, 9, 10] (ct_Fs_take hfn hfe hb (rm_ok _ _ _)) rfl lk_0_182 lcFs_take rfl rfl rfl rfl rfl (by decide) rfl (by rw [eCn]; rfl) rfl (by decide) ⟨by dsimp only [rm]; omega, by show 8 + (5 + 11) + 200 ≤ R.locals; omega⟩ (Nat.le_of_ble_eq_true rfl) (by dsimp only [rm]; omega) (by dsimp only [rm]; omega) ?_
  rintro v S1 h9
  cases ho9 : tkArch z.2.2.2.1 with
  | some fl =>
    rw [ho9] at h9 hP
    obtain ⟨rfl, fs', Cs', F', rfl, hfs', hfl'⟩ := h9
    obtain ⟨fa', ffn', eCs', -⟩ := id hfs'
    refine Ex.sub (S' := [sDa a pl w un fe dr f, Cp, sTw w pl r kp kf kt, Co, Cu, Cf, Cd, T, sHs hs, Cs', F']) [0, 1, 2, 3, 4, 12, 5, 6, 7, 10, 11] rfl rfl ?_
    refine Ex.p rfl ?_
    refine Ex.p rfl ?_
    refine Ex.gf 0 0 rfl rfl rfl ?_
    refine Ex.cv (Mc := mRo_empty) (Rc := rm 0 0 0) (As := []) (rest := []) (Sr := [sDa a pl w un fe dr f, Cp, sTw w pl r kp kf kt, Co, Cu, Cd, T, sHs hs, Cs', F']) (ic := 5) (jc := 0) (ci := 5) [5] [0, 1, 2, 3, 4, 6, 7, 8, 9, 10] (ct_Ro_empty hfe) rfl lk_0_121 lcRo_empty rfl rfl rfl rfl rfl (by decide) rfl (by rw [eCf]; rfl) rfl (by decide) ⟨by dsimp only [rm]; omega, by show 8 + (1 + 11) + 0 ≤ R.locals; omega⟩ (Nat.le_of_ble_eq_true rfl) (by dsimp only [rm]; omega) (by dsimp only [rm]; omega) ?_
    rintro v S1 ⟨rfl, Cf', rfl, hfe'⟩
    refine Ex.sub (S' := [sDa a pl w un fe dr f, Cp, sTw w pl r kp kf kt, Co, Cu, Cf', Cd, T, sHs hs, Cs', F']) [0, 1, 2, 3, 4, 10, 5, 6, 7, 8, 9] rfl rfl ?_
    refine Ex.p rfl ?_
    refine Ex.br rfl (fun _ => ?_) (fun c => absurd (show (1 : Int32) ≠ 0 by decide) c)
    refine Ex.p rfl ?_
    refine Ex.p rfl ?_
    refine Ex.pf 0 0 rfl rfl rfl rfl rfl rfl ?_
    refine Ex.p rfl ?_
    refine Ex.gf 0 0 rfl rfl rfl ?_
    refine Ex.gf 9 0 rfl (by rw [eCs']; rfl) rfl ?_
    refine Ex.iret rfl rfl (by dsimp only [rm]; omega) (by dsimp only [rm]; omega) rfl ?_
    subst hP
    exact ⟨_, rfl, by rw [← hfl', List.length_map], pl, w, un, fe, dr, g, r, kp, kf, kt, c0, c1, _, xs, ts, hs, fs', Cp, Co, Cu, Cf', Cd, T, Cs', F', rfl, hpl, ho, hk, hu, hfe', (fun b hb => by cases hb), hd, hok, hv, htv, hhv, hfs', hfl'⟩
  | none =>
    rw [ho9] at h9 hP
    obtain ⟨rfl, C1, C2, rfl⟩ := h9
    refine Ex.sub (S' := [sDa a pl w un fe dr f, Cp, sTw w pl r kp kf kt, Co, Cu, Cf, Cd, T, sHs hs, Cs, F]) [0, 1, 2, 3, 4, 12, 5, 6, 7, 8, 9] rfl rfl ?_
    refine Ex.p rfl ?_
    refine Ex.p rfl ?_
    refine Ex.gf 0 0 rfl rfl rfl ?_
    refine Ex.cv (Mc := mRo_empty) (Rc := rm 0 0 0) (As := []) (rest := []) (Sr := [sDa a pl w un fe dr f, Cp, sTw w pl r kp kf kt, Co, Cu, Cd, T, sHs hs, Cs, F]) (ic := 5) (jc := 0) (ci := 5) [5] [0, 1, 2, 3, 4, 6, 7, 8, 9, 10] (ct_Ro_empty hfe) rfl lk_0_121 lcRo_empty rfl rfl rfl rfl rfl (by decide) rfl (by rw [eCf]; rfl) rfl (by decide) ⟨by dsimp only [rm]; omega, by show 8 + (1 + 11) + 0 ≤ R.locals; omega⟩ (Nat.le_of_ble_eq_true rfl) (by dsimp only [rm]; omega) (by dsimp only [rm]; omega) ?_
    rintro v S1 ⟨rfl, Cf', rfl, hfe'⟩
    refine Ex.sub (S' := [sDa a pl w un fe dr f, Cp, sTw w pl r kp kf kt, Co, Cu, Cf', Cd, T, sHs hs, Cs, F]) [0, 1, 2, 3, 4, 10, 5, 6, 7, 8, 9] rfl rfl ?_
    refine Ex.p rfl ?_
    refine Ex.br rfl (fun c => absurd rfl c) (fun _ => ?_)
    refine Ex.p rfl ?_
    refine Ex.iret rfl rfl (by dsimp only [rm]; omega) (by dsimp only [rm]; omega) rfl ?_
    subst hP
    exact ⟨_, rfl, rfl, pl, w, un, fe, dr, f, r, kp, kf, kt, c0, c1, _, xs, ts, hs, fs, Cp, Co, Cu, Cf', Cd, T, Cs, F, rfl, hpl, ho, hk, hu, hfe', (fun b hb => by cases hb), hd, hok, hv, htv, hhv, hfs, hff⟩
theorem DrOK.nil : DrOK [] [] := ⟨fun i t h => by simp at h, fun h hh => by cases hh⟩
theorem ct_Da_clear {a : Nat} {z : SD} {S : List va_W} (h : IsDa D a z S) (hr : rmOk R 2 5 84) : Ct l mDa_clear D R [.ref a] S (fun v S => v = none ∧ IsDa D a ([], [], [], [], []) S) := by
  obtain ⟨r1, r2, r3, r4⟩ := hr
  obtain ⟨pl, w, un, fe, dr, f, r, kp, kf, kt, c0, c1, c2, xs, ts, hs, fs, Cp, Co, Cu, Cf, Cd, T, Cs, F, rfl, hpl, ho, hk, hu, hfe, hb, hd, hok, hv, htv, hhv, hfs, hff⟩ := h
  obtain ⟨_, _, eCf, -⟩ := id hfe
  obtain ⟨_, _, eCu, -⟩ := id hu
  refine Ct.of rfl (by decide) tkDa_clear (Nat.le_of_ble_eq_true rfl) (fun A => ?_)
  refine Ex.p rfl ?_
  refine Ex.new (ci := 1) (N := 4) rfl rfl (by omega) (by omega) (fun d => ?_)
  refine Ex.p rfl ?_
  refine Ex.ciN (Mc := mDr_init) (Rc := rm 1 2 70) (As := []) (rest := [.ref d, .ref a]) (Sr := [sDa a pl w un fe dr f, Cp, sTw w pl r kp kf kt, Co, Cu, Cf, Cd, T, sHs hs, Cs, F]) [11] [0, 1, 2, 3, 4, 5, 6, 7, 8, 9, 10] (ct_Dr_init (rm_ok _ _ _)) rfl ln_0_39 lcDr_init rfl rfl rfl rfl rfl (by decide) ⟨by dsimp only [rm]; omega, by show 8 + (1 + 11) + 40 ≤ R.locals; omega⟩ (Nat.le_of_ble_eq_true rfl) (by dsimp only [rm]; omega) (by dsimp only [rm]; omega) ?_
  rintro v S1 ⟨rfl, Cn, rfl, hdn⟩
  refine Ex.pf 0 0 rfl rfl rfl rfl rfl rfl ?_
  refine Ex.p rfl ?_
  refine Ex.new (ci := 2) (N := 2) rfl rfl (by dsimp only [rm]; omega) (by dsimp only [rm]; omega) (fun g => ?_)
  refine Ex.p rfl ?_
  refine Ex.ciN (Mc := mFs_init) (Rc := rm 1 1 8) (As := []) (rest := [.ref g, .ref a]) (Sr := [sDa a pl w un fe d f, Cp, sTw w pl r kp kf kt, Co, Cu, Cf, Cd, T, sHs hs, Cs, F, Cn]) [12] [0, 1, 2, 3, 4, 5, 6, 7, 8, 9, 10, 11] (ct_Fs_init (rm_ok _ _ _)) rfl ln_0_46 lcFs_init rfl rfl rfl rfl rfl (by decide) ⟨by dsimp only [rm]; omega, by show 8 + (1 + 11) + 40 ≤ R.locals; omega⟩ (Nat.le_of_ble_eq_true rfl) (by dsimp only [rm]; omega) (by dsimp only [rm]; omega) ?_
  rintro v S1 ⟨rfl, Cm, rfl, hfn⟩
  refine Ex.pf 0 0 rfl rfl rfl rfl rfl rfl ?_
  refine Ex.sub (S' := [sDa a pl w un fe d g, Cp, sTw w pl r kp kf kt, Co, Cu, Cf, Cn, Cm]) [0, 1, 2, 3, 4, 5, 11, 12] rfl rfl ?_
  refine Ex.seg (S' := [sDa a pl w un fe d g, Cp, sTw w pl r kp kf kt, Co, Cu, Cf, Cn, [], sHs [], Cm, []]) (by simp [sHs]) ?_
  refine Ex.p rfl ?_
  refine Ex.gf 0 0 rfl rfl rfl ?_
  refine Ex.cv (Mc := mRo_empty) (Rc := rm 0 0 0) (As := []) (rest := []) (Sr := [sDa a pl w un fe d g, Cp, sTw w pl r kp kf kt, Co, Cf, Cn, [], sHs [], Cm, []]) (ic := 4) (jc := 0) (ci := 5) [4] [0, 1, 2, 3, 5, 6, 7, 8, 9, 10] (ct_Ro_empty hu) rfl lk_0_121 lcRo_empty rfl rfl rfl rfl rfl (by decide) rfl (by rw [eCu]; rfl) rfl (by decide) ⟨by dsimp only [rm]; omega, by show 8 + (1 + 11) + 0 ≤ R.locals; omega⟩ (Nat.le_of_ble_eq_true rfl) (by dsimp only [rm]; omega) (by dsimp only [rm]; omega) ?_
  rintro v S1 ⟨rfl, Cu', rfl, hu'⟩
  refine Ex.sub (S' := [sDa a pl w un fe d g, Cp, sTw w pl r kp kf kt, Co, Cu', Cf, Cn, [], sHs [], Cm, []]) [0, 1, 2, 3, 10, 4, 5, 6, 7, 8, 9] rfl rfl ?_
  refine Ex.p rfl ?_
  refine Ex.gf 0 0 rfl rfl rfl ?_
  refine Ex.cv (Mc := mRo_empty) (Rc := rm 0 0 0) (As := []) (rest := []) (Sr := [sDa a pl w un fe d g, Cp, sTw w pl r kp kf kt, Co, Cu', Cn, [], sHs [], Cm, []]) (ic := 5) (jc := 0) (ci := 5) [5] [0, 1, 2, 3, 4, 6, 7, 8, 9, 10] (ct_Ro_empty hfe) rfl lk_0_121 lcRo_empty rfl rfl rfl rfl rfl (by decide) rfl (by rw [eCf]; rfl) rfl (by decide) ⟨by dsimp only [rm]; omega, by show 8 + (1 + 11) + 0 ≤ R.locals; omega⟩ (Nat.le_of_ble_eq_true rfl) (by dsimp only [rm]; omega) (by dsimp only [rm]; omega) ?_
  rintro v S1 ⟨rfl, Cf', rfl, hfe'⟩
  refine Ex.sub (S' := [sDa a pl w un fe d g, Cp, sTw w pl r kp kf kt, Co, Cu', Cf', Cn, [], sHs [], Cm, []]) [0, 1, 2, 3, 4, 10, 5, 6, 7, 8, 9] rfl rfl ?_
  refine Ex.p rfl ?_
  refine Ex.gf 0 0 rfl rfl rfl ?_
  refine Ex.cv (Mc := mTw_forget) (Rc := rm 0 0 0) (As := []) (rest := []) (Sr := [sDa a pl w un fe d g, Cp, Co, Cu', Cf', Cn, [], sHs [], Cm, []]) (ic := 2) (jc := 0) (ci := 8) [2] [0, 1, 3, 4, 5, 6, 7, 8, 9, 10] (ct_Tw_forget) rfl lk_0_62 lcTw_forget rfl rfl rfl rfl rfl (by decide) rfl rfl rfl (by decide) ⟨by dsimp only [rm]; omega, by show 8 + (1 + 11) + 0 ≤ R.locals; omega⟩ (Nat.le_of_ble_eq_true rfl) (by dsimp only [rm]; omega) (by dsimp only [rm]; omega) ?_
  rintro v S1 ⟨rfl, rfl⟩
  refine Ex.sub (S' := [sDa a pl w un fe d g, Cp, sTw w pl r false kf kt, Co, Cu', Cf', Cn, [], sHs [], Cm, []]) [0, 1, 10, 2, 3, 4, 5, 6, 7, 8, 9] rfl rfl ?_
  refine Ex.vret rfl rfl (by dsimp only [rm]; omega) (by dsimp only [rm]; omega) rfl ?_
  exact ⟨rfl, pl, w, un, fe, d, g, r, false, kf, kt, c0, _, _, xs, [], [], [], Cp, Co, Cu', Cf', Cn, [], Cm, [], rfl, hpl, ho, (fun c => by cases c), hu', hfe', (fun b hb => by cases hb), hdn, DrOK.nil, (fun h hh => by cases hh), rfl, rfl, hfn, rfl⟩
theorem ct_Da_init {a : Nat} (hr : rmOk R 3 18 2376) : Ct l mDa_init D R [.ref a] [[(a, .inr (0, gdf 0))]] (fun v S => v = none ∧ IsDa D a ([], [], [], [], []) S) := by
  obtain ⟨r1, r2, r3, r4⟩ := hr
  refine Ct.of rfl (by decide) tkDa_init (Nat.le_of_ble_eq_true rfl) (fun A => ?_)
  refine Ex.p rfl ?_
  refine Ex.oi rfl lk_0_1 (by omega) (by simp; omega) ?_
  refine Ex.p rfl ?_
  refine Ex.new (ci := 4) (N := 7) rfl rfl (by omega) (by omega) (fun pl => ?_)
  refine Ex.p rfl ?_
  refine Ex.ciN (Mc := mPl_init) (Rc := rm 2 5 2247) (As := []) (rest := [.ref pl, .ref a]) (Sr := [[(a, .inr (0, gdf 0))]]) [1] [0] (ct_Pl_init (rm_ok _ _ _)) rfl ln_0_9 lcPl_init rfl rfl rfl rfl rfl (by decide) ⟨by dsimp only [rm]; omega, by show 8 + (1 + 11) + 80 ≤ R.locals; omega⟩ (Nat.le_of_ble_eq_true rfl) (by dsimp only [rm]; omega) (by dsimp only [rm]; omega) ?_
  rintro v S1 ⟨rfl, Cp, rfl, hpl⟩
  refine Ex.pfF 0 0 rfl rfl rfl rfl rfl rfl rfl rfl ?_
  refine Ex.p rfl ?_
  refine Ex.new (ci := 8) (N := 5) rfl rfl (by dsimp only [rm]; omega) (by dsimp only [rm]; omega) (fun w => ?_)
  refine Ex.p rfl ?_
  refine Ex.p rfl ?_
  refine Ex.gf 0 0 rfl rfl rfl ?_
  refine Ex.ci (Mc := mTw_init) (Rc := rm 2 2 11) (As := [.ref pl]) (rest := [.ref w, .ref a]) (Sr := [[(a, .inr (0, [.ref pl, .null, .null, .null, .null, .null]))], Cp]) [2] [0, 1] (ct_Tw_init (rm_ok _ _ _)) rfl lk_0_18 lcTw_init rfl rfl rfl rfl rfl (by decide) ⟨by dsimp only [rm]; omega, by show 8 + (2 + 11) + 80 ≤ R.locals; omega⟩ (Nat.le_of_ble_eq_true rfl) (by dsimp only [rm]; omega) (by dsimp only [rm]; omega) ?_
  rintro v S1 ⟨rfl, r, Co, rfl, ho⟩
  refine Ex.pfF 0 0 rfl rfl rfl rfl rfl rfl rfl rfl ?_
  refine Ex.p rfl ?_
  refine Ex.new (ci := 5) (N := 3) rfl rfl (by dsimp only [rm]; omega) (by dsimp only [rm]; omega) (fun un => ?_)
  refine Ex.p rfl ?_
  refine Ex.p rfl ?_
  refine Ex.ci (Mc := mRo_init) (Rc := rm 1 1 8) (As := [.int (nI 2000)]) (rest := [.ref un, .ref a]) (Sr := [[(a, .inr (0, [.ref pl, .ref w, .null, .null, .null, .null]))], Cp, sTw w pl r false 0 0, Co]) [4] [0, 1, 2, 3] (ct_Ro_init (by omega) (by dsimp only [rm]; omega) (by dsimp only [rm]; omega) (by dsimp only [rm]; omega) (by dsimp only [rm]; omega)) rfl lk_0_27 lcRo_init rfl rfl rfl rfl rfl (by decide) ⟨by dsimp only [rm]; omega, by show 8 + (2 + 11) + 40 ≤ R.locals; omega⟩ (Nat.le_of_ble_eq_true rfl) (by dsimp only [rm]; omega) (by dsimp only [rm]; omega) ?_
  rintro v S1 ⟨rfl, Cu, rfl, hu⟩
  refine Ex.pfF 0 0 rfl rfl rfl rfl rfl rfl rfl rfl ?_
  refine Ex.p rfl ?_
  refine Ex.new (ci := 5) (N := 3) rfl rfl (by dsimp only [rm]; omega) (by dsimp only [rm]; omega) (fun fe => ?_)
  refine Ex.p rfl ?_
  refine Ex.p rfl ?_
  refine Ex.ci (Mc := mRo_init) (Rc := rm 1 1 8) (As := [.int (nI 2600)]) (rest := [.ref fe, .ref a]) (Sr := [[(a, .inr (0, [.ref pl, .ref w, .ref un, .null, .null, .null]))], Cp, sTw w pl r false 0 0, Co, Cu]) [5] [0, 1, 2, 3, 4] (ct_Ro_init (by omega) (by dsimp only [rm]; omega) (by dsimp only [rm]; omega) (by dsimp only [rm]; omega) (by dsimp only [rm]; omega)) rfl lk_0_27 lcRo_init rfl rfl rfl rfl rfl (by decide) ⟨by dsimp only [rm]; omega, by show 8 + (2 + 11) + 40 ≤ R.locals; omega⟩ (Nat.le_of_ble_eq_true rfl) (by dsimp only [rm]; omega) (by dsimp only [rm]; omega) ?_
  rintro v S1 ⟨rfl, Cf, rfl, hfe⟩
  refine Ex.pfF 0 0 rfl rfl rfl rfl rfl rfl rfl rfl ?_
  refine Ex.p rfl ?_
  refine Ex.new (ci := 1) (N := 4) rfl rfl (by dsimp only [rm]; omega) (by dsimp only [rm]; omega) (fun d => ?_)
  refine Ex.p rfl ?_
  refine Ex.ciN (Mc := mDr_init) (Rc := rm 1 2 70) (As := []) (rest := [.ref d, .ref a]) (Sr := [[(a, .inr (0, [.ref pl, .ref w, .ref un, .ref fe, .null, .null]))], Cp, sTw w pl r false 0 0, Co, Cu, Cf]) [6] [0, 1, 2, 3, 4, 5] (ct_Dr_init (rm_ok _ _ _)) rfl ln_0_39 lcDr_init rfl rfl rfl rfl rfl (by decide) ⟨by dsimp only [rm]; omega, by show 8 + (1 + 11) + 40 ≤ R.locals; omega⟩ (Nat.le_of_ble_eq_true rfl) (by dsimp only [rm]; omega) (by dsimp only [rm]; omega) ?_
  rintro v S1 ⟨rfl, Cn, rfl, hdn⟩
  refine Ex.pf 0 0 rfl rfl rfl rfl rfl rfl ?_
  refine Ex.p rfl ?_
  refine Ex.new (ci := 2) (N := 2) rfl rfl (by dsimp only [rm]; omega) (by dsimp only [rm]; omega) (fun g => ?_)
  refine Ex.p rfl ?_
  refine Ex.ciN (Mc := mFs_init) (Rc := rm 1 1 8) (As := []) (rest := [.ref g, .ref a]) (Sr := [[(a, .inr (0, [.ref pl, .ref w, .ref un, .ref fe, .ref d, .null]))], Cp, sTw w pl r false 0 0, Co, Cu, Cf, Cn]) [7] [0, 1, 2, 3, 4, 5, 6] (ct_Fs_init (rm_ok _ _ _)) rfl ln_0_46 lcFs_init rfl rfl rfl rfl rfl (by decide) ⟨by dsimp only [rm]; omega, by show 8 + (1 + 11) + 40 ≤ R.locals; omega⟩ (Nat.le_of_ble_eq_true rfl) (by dsimp only [rm]; omega) (by dsimp only [rm]; omega) ?_
  rintro v S1 ⟨rfl, Cm, rfl, hfn⟩
  refine Ex.pf 0 0 rfl rfl rfl rfl rfl rfl ?_
  refine Ex.seg (S' := [sDa a pl w un fe d g, Cp, sTw w pl r false 0 0, Co, Cu, Cf, Cn, [], sHs [], Cm, []]) (by simp [sHs]) ?_
  refine Ex.vret rfl rfl (by dsimp only [rm]; omega) (by dsimp only [rm]; omega) rfl ?_
  exact ⟨rfl, pl, w, un, fe, d, g, r, false, 0, 0, 8, 8, 8, [], [], [], [], Cp, Co, Cu, Cf, Cn, [], Cm, [], rfl, ⟨_, _, _, _, _, _, hpl⟩, ho, (fun c => by cases c), hu, hfe, (fun b hb => by cases hb), hdn, DrOK.nil, (fun h hh => by cases hh), rfl, rfl, hfn, rfl⟩
end DA6
end
section
/-! DrillArchive: told, agrees -/
noncomputable def wrg (z : SD) (ro : Nat) : Bool := match z.2.2.2.2.find? (fun x => x.1 == ro) with
  | some x => !decide (x.2.map nI = textD 0 (nI ro) z.1 z.2.1)
  | none => false
def tld (w : Nat → Bool) : Nat → Nat → Nat → Int32
  | 0, _, _ => -1
  | n + 1, ro, lf => if w ro then (if lf = 0 then nI ro else tld w n (ro + 1) (lf - 1)) else tld w n (ro + 1) lf
noncomputable def aTold (z : SD) (k : Int32) : AR := (.inr (.int (if 0 ≤ k.toInt then tld (wrg z) 8 0 k.toInt.toNat else -1)), z)
noncomputable def aAgree (z : SD) : AR := (.inr (.int (b32 (decide (tld (wrg z) 8 0 0 = -1)))), z)
theorem find_frb {fs : List FV} {ro : Nat} : (fs.map frb).find? (fun x => x.1 == ro) = (fwith fs ro).map frb := by
  unfold fwith
  rw [List.find?_map]
  rfl
theorem i_addm1 (n : Nat) : nI (n + 1) + Int32.ofInt (-1) = nI n := by
  have e : Int32.ofInt (-1) = - Int32.ofInt 1 := by decide
  rw [e, ← Int32.sub_eq_add_neg]
  exact i_sub1 n
section DA7
variable {l : Launch} {D : xD} {R : Room}
theorem ct_Da_told {a : Nat} {z : SD} {k9 : Int32} {S : List va_W} (h : IsDa D a z S) (hr : rmOk R 8 786 12580) : Ct l mDa_told D R [.ref a, .int k9] S (QR D a (aTold z k9)) := by
  obtain ⟨r1, r2, r3, r4⟩ := hr
  have hz := id h
  obtain ⟨pl, w, un, fe, dr, f, r, kp, kf, kt, c0, c1, c2, xs, ts, hs, fs, Cp, Co, Cu, Cf, Cd, T, Cs, F, rfl, hpl, ho, hk, hu, hfe, hb, hd, hok, hv, htv, hhv, hfs, hff⟩ := h
  obtain ⟨ta, ha, ft, fh, eCd, -, -, -, -, h3, h4⟩ := id hd
  obtain ⟨fa, ffn, eCs, -⟩ := id hfs
  obtain ⟨_, _, _, w1, w2, w3, w4, w5, w6⟩ := id ho
  have hup := upl_len ts
  generalize hP : aTold z k9 = P
  unfold aTold at hP
  refine Ct.of rfl (by decide) tkDa_told (Nat.le_of_ble_eq_true rfl) (fun A => ?_)
  refine Ex.p rfl ?_
  refine Ex.br rfl (fun c => ?_) (fun c => ?_)
  · have c : 0 ≤ k9 := c
    rw [Int32.le_iff_toInt_le] at c
    have c : 0 ≤ k9.toInt := c
    rw [if_pos c] at hP
    have ek := nI_nat c
    have hk31 := Int32.toInt_lt k9
    generalize hkn : k9.toInt.toNat = kn at hP ek
    have hkn31 : kn < 2 ^ 31 := by omega
    subst ek
    have loop : ∀ (m i lf : Nat) (ts' : List TV) (T' Cp' Co' : va_W) (kp : Bool) (kf kt : Int32) (c : Nat) (xs : List Int32), 8 - i < m → i ≤ 8 → lf < 2 ^ 31 → IsPlA D pl Cp' → IsRow D r 2600 c xs Co' → (kp = true → xs = textD kf kt z.1 z.2.1) → IsDr D dr ts' hs Cd T' (sHs hs) → DrOK ts' hs → ts'.map tvo = z.1 → upl ts' ≤ upl ts → c0 ≤ c → c ≤ max c0 5090 → ((.inr (.int (tld (wrg z) (8 - i) i lf)), z) : AR) = P → ∀ lv9 : List (Nat × Value), (∀ q ∈ [(3, Value.int (nI i)), (2, .int (nI lf)), (0, .ref a)], q ∈ lv9) →
        Ex l mDa_told D R A (xQ D A (QR D a P)) R.cells R.slots 10 lv9 [] [sDa a pl w un fe dr f, Cp', sTw w pl r kp kf kt, Co', Cu, Cf, Cd, T', sHs hs, Cs, F] (15 * (upl ts - upl ts') + (c - c0) / 8) (240 * (upl ts - upl ts') + 2 * (c - c0)) := by
      intro m
      induction m with
      | zero => intro i lf ts' T' Cp' Co' kp kf kt c xs h; omega
      | succ m ih =>
        intro i lf ts' T' Cp' Co' kp kf kt c xs hm hi hlf hpl' ho' hk' hd' hok' htv' hu' hc1 hc2 hPt lv9 hlv
        have hl' : ts'.length = ts.length := by
          have := congrArg List.length htv'
          rw [← htv, List.length_map, List.length_map] at this
          exact this
        refine Ex.lv hlv ?_
        have fin : ∀ v : Int32, ((.inr (.int v), z) : AR) = P → QR D a P (some (.int v)) [sDa a pl w un fe dr f, Cp', sTw w pl r kp kf kt, Co', Cu, Cf, Cd, T', sHs hs, Cs, F] := by
          intro v e
          subst e
          exact ⟨_, rfl, rfl, pl, w, un, fe, dr, f, r, kp, kf, kt, c, c1, c2, xs, ts', hs, fs, Cp', Co', Cu, Cf, Cd, T', Cs, F, rfl, hpl', ho', hk', hu, hfe, hb, hd', hok', (by rw [hl']; exact hv), htv', hhv, hfs, hff⟩
        refine Ex.p rfl ?_
        refine Ex.p rfl ?_
        refine Ex.br rfl (fun g => ?_) (fun g => ?_)
        · have g : nI 7 < nI i := g
          rw [nI_ltI (by omega) (by omega)] at g
          have ei : i = 8 := by omega
          subst ei
          refine Ex.p rfl ?_
          exact Ex.iret rfl rfl (by omega) (by omega) rfl (fin _ hPt)
        · have g : ¬ nI 7 < nI i := g
          rw [nI_ltI (by omega) (by omega)] at g
          have e8 : 8 - i = (8 - (i + 1)) + 1 := by omega
          rw [e8] at hPt
          unfold tld at hPt
          refine Ex.p rfl ?_
          refine Ex.gf 0 0 rfl rfl rfl ?_
          refine Ex.p rfl ?_
          refine Ex.cv (Mc := mFs_withRole) (Rc := rm 1 0 0) (As := [.int (nI i)]) (rest := []) (Sr := [sDa a pl w un fe dr f, Cp', sTw w pl r kp kf kt, Co', Cu, Cf, Cd, T', sHs hs]) (ic := 9) (jc := 0) (ci := 2) [9, 10] [0, 1, 2, 3, 4, 5, 6, 7, 8] (ct_Fs_withRole hfs (by omega) (rm_ok _ _ _)) rfl lk_0_190 lcFs_withRole rfl rfl rfl rfl rfl (by decide) rfl (by rw [eCs]; rfl) rfl (by decide) ⟨by dsimp only [rm]; omega, by show 8 + (4 + 11) + 40 ≤ R.locals; omega⟩ (Nat.le_of_ble_eq_true rfl) (by dsimp only [rm]; omega) (by dsimp only [rm]; omega) ?_
          rintro v S1 ⟨rfl, rfl⟩
          cases hw : fwith fs i with
          | none =>
            have ew : wrg z i = false := by
              unfold wrg
              rw [← hff, find_frb, hw]
              rfl
            rw [ew, if_neg (by decide)] at hPt
            refine Ex.p rfl ?_
            refine Ex.p rfl ?_
            refine Ex.nuN rfl rfl ?_
            refine Ex.p rfl ?_
            refine Ex.p rfl ?_
            rw [i_add1]
            refine Ex.more (k' := 15 * (upl ts - upl ts') + (c - c0) / 8) (n' := 240 * (upl ts - upl ts') + 2 * (c - c0)) (by dsimp only [rm]; omega) (by dsimp only [rm]; omega) (ih (i + 1) lf ts' T' Cp' Co' kp kf kt c xs (by omega) (by omega) hlf hpl' ho' hk' hd' hok' htv' hu' hc1 hc2 hPt _ (fun q h => ?_))
            simp only [List.mem_cons, List.not_mem_nil, or_false] at h
            rcases h with rfl | rfl | rfl <;> first | (simp [xs1, lv_args, Value.category, b32, nI]; done) | (simp [xs1, lv_args, Value.category, b32, nI]; decide) | (simp [xs1, lv_args, Value.category, b32, nI]; exact Or.inr (by decide))
          | some x =>
            obtain ⟨j, hj⟩ := List.mem_iff_getElem?.mp (List.mem_of_find?_eq_some hw)
            obtain ⟨X, C, Y, eF, hC, -⟩ := hfs.at hj
            obtain ⟨rb, Cb, rfl, hrb, -⟩ := id hC
            obtain ⟨_, _, eCb, -⟩ := id hrb
            have ew : wrg z i = !decide (x.2.2.1.map nI = textD 0 (nI i) z.1 z.2.1) := by
              unfold wrg
              rw [← hff, find_frb, hw]
              rfl
            rw [ew] at hPt
            refine Ex.seg (S' := [sDa a pl w un fe dr f, Cp', sTw w pl r kp kf kt, Co', Cu, Cf, Cd, T', sHs hs, Cs, X, [(x.1, .inr (6, [.int (nI x.2.1), .ref rb, .int (nI (fsum x.2.2.1))]))], Cb, Y]) (by rw [eF]; simp) ?_
            have s49 : ∀ (ts2 : List TV) (T2 Cp2 Co2 : va_W) (cc : Nat) (k n : Nat), IsPlA D pl Cp2 → IsRow D r 2600 cc (textD 0 (nI i) z.1 z.2.1) Co2 → IsDr D dr ts2 hs Cd T2 (sHs hs) → DrOK ts2 hs → ts2.map tvo = z.1 → upl ts2 ≤ upl ts → c0 ≤ cc → cc ≤ max c0 5090 → k ≤ 15 * (upl ts - upl ts2) + (cc - c0) / 8 → n ≤ 240 * (upl ts - upl ts2) + 2 * (cc - c0) → ∀ lv9 : List (Nat × Value), (∀ q ∈ [(3, Value.int (nI i)), (2, .int (nI lf)), (0, .ref a)], q ∈ lv9) →
                Ex l mDa_told D R A (xQ D A (QR D a P)) R.cells R.slots 49 lv9 [.ref r, .ref rb] [sDa a pl w un fe dr f, Cp2, sTw w pl r true 0 (nI i), Co2, Cu, Cf, Cd, T2, sHs hs, Cs, X, [(x.1, .inr (6, [.int (nI x.2.1), .ref rb, .int (nI (fsum x.2.2.1))]))], Cb, Y] k n := by
              intro ts2 T2 Cp2 Co2 cc k n hpl2 ho2 hd2 hok2 htv2 hu2 hcc1 hcc2 hk2 hn2 lv9 hlv
              have hl2 : ts2.length = ts.length := by
                have := congrArg List.length htv2
                rw [← htv, List.length_map, List.length_map] at this
                exact this
              refine Ex.lv hlv ?_
              refine Ex.more (k' := 15 * (upl ts - upl ts2) + (cc - c0) / 8) (n' := 240 * (upl ts - upl ts2) + 2 * (cc - c0)) hk2 hn2 ?_
              refine Ex.cv (Mc := mRo_same) (Rc := rm 1 0 0) (As := [.ref r]) (rest := []) (Sr := [sDa a pl w un fe dr f, Cp2, sTw w pl r true 0 (nI i), Cu, Cf, Cd, T2, sHs hs, Cs, X, [(x.1, .inr (6, [.int (nI x.2.1), .ref rb, .int (nI (fsum x.2.2.1))]))], Y]) (ic := 12) (jc := 0) (ci := 5) [12, 3] [0, 1, 2, 4, 5, 6, 7, 8, 9, 10, 11, 13] (ct_Ro_same hrb ho2 (rm_ok _ _ _)) rfl lk_0_196 lcRo_same rfl rfl rfl rfl rfl (by decide) rfl (by rw [eCb]; rfl) rfl (by decide) ⟨by dsimp only [rm]; omega, by show 8 + (3 + 11) + 40 ≤ R.locals; omega⟩ (Nat.le_of_ble_eq_true rfl) (by dsimp only [rm]; omega) (by dsimp only [rm]; omega) ?_
              rintro v S1 ⟨rfl, rfl⟩
              refine Ex.sub (S' := [sDa a pl w un fe dr f, Cp2, sTw w pl r true 0 (nI i), Co2, Cu, Cf, Cd, T2, sHs hs, Cs, X, [(x.1, .inr (6, [.int (nI x.2.1), .ref rb, .int (nI (fsum x.2.2.1))]))], Cb, Y]) [0, 1, 2, 13, 3, 4, 5, 6, 7, 8, 9, 10, 12, 11] rfl rfl ?_
              refine Ex.seg (S' := [sDa a pl w un fe dr f, Cp2, sTw w pl r true 0 (nI i), Co2, Cu, Cf, Cd, T2, sHs hs, Cs, F]) (by rw [eF]; simp) ?_
              have next : ∀ lf2 : Nat, lf2 < 2 ^ 31 → ((.inr (.int (tld (wrg z) (8 - (i + 1)) (i + 1) lf2)), z) : AR) = P → ∀ lv9 : List (Nat × Value), (∀ q ∈ [(3, Value.int (nI i)), (2, .int (nI lf2)), (0, .ref a)], q ∈ lv9) → Ex l mDa_told D R A (xQ D A (QR D a P)) R.cells R.slots 64 lv9 [] [sDa a pl w un fe dr f, Cp2, sTw w pl r true 0 (nI i), Co2, Cu, Cf, Cd, T2, sHs hs, Cs, F] (15 * (upl ts - upl ts2) + (cc - c0) / 8 + (rm 1 0 0).cells) (240 * (upl ts - upl ts2) + 2 * (cc - c0) + (rm 1 0 0).slots) := by
                intro lf2 hlf2 hP2 lv9 hlv
                refine Ex.lv hlv ?_
                refine Ex.p rfl ?_
                refine Ex.p rfl ?_
                rw [i_add1]
                refine Ex.more (k' := 15 * (upl ts - upl ts2) + (cc - c0) / 8) (n' := 240 * (upl ts - upl ts2) + 2 * (cc - c0)) (by dsimp only [rm]; omega) (by dsimp only [rm]; omega) (ih (i + 1) lf2 ts2 T2 Cp2 Co2 true 0 (nI i) cc _ (by omega) (by omega) hlf2 hpl2 ho2 (fun _ => rfl) hd2 hok2 htv2 hu2 hcc1 hcc2 hP2 _ (fun q h => ?_))
                simp only [List.mem_cons, List.not_mem_nil, or_false] at h
                rcases h with rfl | rfl | rfl <;> first | (simp [xs1, lv_args, Value.category, b32, nI]; done) | (simp [xs1, lv_args, Value.category, b32, nI]; decide) | (simp [xs1, lv_args, Value.category, b32, nI]; exact Or.inr (by decide))
              by_cases hs9 : x.2.2.1.map nI = textD 0 (nI i) z.1 z.2.1
              · rw [decide_eq_true hs9]
                rw [decide_eq_true hs9, if_neg (by decide)] at hPt
                refine Ex.br rfl (fun _ => ?_) (fun c => absurd (show (1 : Int32) ≠ 0 by decide) c)
                refine next lf hlf hPt _ (fun q h => ?_)
                simp only [List.mem_cons, List.not_mem_nil, or_false] at h
                rcases h with rfl | rfl | rfl <;> first | (simp [xs1, lv_args, Value.category, b32, nI]; done) | (simp [xs1, lv_args, Value.category, b32, nI]; decide) | (simp [xs1, lv_args, Value.category, b32, nI]; exact Or.inr (by decide))
              · rw [decide_eq_false hs9]
                rw [decide_eq_false hs9, if_pos (by decide)] at hPt
                refine Ex.br rfl (fun c => absurd rfl c) (fun _ => ?_)
                refine Ex.p rfl ?_
                by_cases hl0 : lf = 0
                · subst hl0
                  rw [if_pos rfl] at hPt
                  refine Ex.br rfl (fun c => absurd rfl c) (fun _ => ?_)
                  refine Ex.p rfl ?_
                  refine Ex.iret rfl rfl (by dsimp only [rm]; omega) (by dsimp only [rm]; omega) rfl ?_
                  subst hPt
                  exact ⟨_, rfl, rfl, pl, w, un, fe, dr, f, r, true, 0, nI i, cc, c1, c2, _, ts2, hs, fs, Cp2, Co2, Cu, Cf, Cd, T2, Cs, F, rfl, hpl2, ho2, (fun _ => rfl), hu, hfe, hb, hd2, hok2, (by rw [hl2]; exact hv), htv2, hhv, hfs, hff⟩
                · rw [if_neg hl0] at hPt
                  refine Ex.br rfl (fun _ => ?_) (fun c => absurd (fun q => hl0 (by rwa [show (0 : Int32) = nI 0 from rfl, nI_eq (by omega) (by omega)] at q)) c)
                  refine Ex.p rfl ?_
                  obtain ⟨lf2, rfl⟩ : ∃ q, lf = q + 1 := ⟨lf - 1, by omega⟩
                  rw [i_addm1]
                  refine next lf2 (by omega) hPt _ (fun q h => ?_)
                  simp only [List.mem_cons, List.not_mem_nil, or_false] at h
                  rcases h with rfl | rfl | rfl <;> first | (simp [xs1, lv_args, Value.category, b32, nI]; done) | (simp [xs1, lv_args, Value.category, b32, nI]; decide) | (simp [xs1, lv_args, Value.category, b32, nI]; exact Or.inr (by decide))
            refine Ex.p rfl ?_
            refine Ex.p rfl ?_
            refine Ex.nuR rfl ?_
            refine Ex.p rfl ?_
            refine Ex.gf 11 0 rfl rfl rfl ?_
            refine Ex.p rfl ?_
            refine Ex.gf 0 0 rfl rfl rfl ?_
            refine Ex.p rfl ?_
            refine Ex.gf 0 0 rfl rfl rfl ?_
            refine Ex.p rfl ?_
            refine Ex.p rfl ?_
            by_cases hkk : kp = true ∧ kf = 0 ∧ kt = nI i
            · obtain ⟨rfl, rfl, rfl⟩ := hkk
              refine Ex.cv (Mc := mTw_textOf) (Rc := rm 0 0 0) (As := [.ref dr, .int 0, .int (nI i)]) (rest := [.ref rb]) (Sr := [sDa a pl w un fe dr f, Cu, Cf, Cs, X, [(x.1, .inr (6, [.int (nI x.2.1), .ref rb, .int (nI (fsum x.2.2.1))]))], Cb, Y]) (ic := 2) (jc := 0) (ci := 8) [2, 3, 1, 6, 7, 8] [0, 4, 5, 9, 10, 11, 12, 13] (ct_Tw_textOf_kept (c := 0) (p := pl) (r := r) (S0 := [Co', Cp', Cd, T', sHs hs])) rfl lk_0_101 lcTw_textOf rfl rfl rfl rfl rfl (by decide) rfl rfl rfl (by decide) ⟨by dsimp only [rm]; omega, by show 8 + (6 + 11) + 0 ≤ R.locals; omega⟩ (Nat.le_of_ble_eq_true rfl) (by dsimp only [rm]; omega) (by dsimp only [rm]; omega) ?_
              rintro v S1 ⟨rfl, rfl⟩
              refine Ex.sub (S' := [sDa a pl w un fe dr f, Cp', sTw w pl r true 0 (nI i), Co', Cu, Cf, Cd, T', sHs hs, Cs, X, [(x.1, .inr (6, [.int (nI x.2.1), .ref rb, .int (nI (fsum x.2.2.1))]))], Cb, Y]) [0, 10, 8, 9, 1, 2, 11, 12, 13, 3, 4, 5, 6, 7] rfl rfl ?_
              refine s49 ts' T' Cp' Co' c _ _ hpl' (by rw [hk' rfl] at ho'; exact ho') hd' hok' htv' hu' hc1 hc2 (by dsimp only [rm]; omega) (by dsimp only [rm]; omega) _ (fun q h => ?_)
              simp only [List.mem_cons, List.not_mem_nil, or_false] at h
              rcases h with rfl | rfl | rfl <;> first | (simp [xs1, lv_args, Value.category, b32, nI]; done) | (simp [xs1, lv_args, Value.category, b32, nI]; decide) | (simp [xs1, lv_args, Value.category, b32, nI]; exact Or.inr (by decide))
            · have g1 : layOK 0 := ⟨by decide, by decide⟩
              have g2 : layOK (nI i) := by
                unfold layOK
                rw [nI_toInt (by omega)]
                omega
              obtain ⟨_, _, _, y1, y2, y3, y4, y5, y6⟩ := id ho'
              obtain ⟨tg1, tg2⟩ := text_grow (c0 := c) g1 g2 hok' (by omega) h4 y4
              have hge := capN_ge (textD 0 (nI i) (ts'.map tvo) (hs.map (fun h => h.2))).length c 0
              refine Ex.cv (Mc := mTw_textOf) (Rc := rm 7 (15 * upl ts' + (capN c 0 (textD 0 (nI i) (ts'.map tvo) (hs.map (fun h => h.2))).length - c) / 8) (240 * upl ts' + 2 * (capN c 0 (textD 0 (nI i) (ts'.map tvo) (hs.map (fun h => h.2))).length - c))) (As := [.ref dr, .int 0, .int (nI i)]) (rest := [.ref rb]) (Sr := [sDa a pl w un fe dr f, Cu, Cf, Cs, X, [(x.1, .inr (6, [.int (nI x.2.1), .ref rb, .int (nI (fsum x.2.2.1))]))], Cb, Y]) (ic := 2) (jc := 0) (ci := 8) [2, 3, 1, 6, 7, 8] [0, 4, 5, 9, 10, 11, 12, 13] (ct_Tw_textOf ho' hpl' hd' hok' g1 g2 hkk (rm_ok _ _ _)) rfl lk_0_101 lcTw_textOf rfl rfl rfl rfl rfl (by decide) rfl rfl rfl (by decide) ⟨by dsimp only [rm]; omega, by show 8 + (6 + 11) + 280 ≤ R.locals; omega⟩ (Nat.le_of_ble_eq_true rfl) (by dsimp only [rm]; omega) (by dsimp only [rm]; omega) ?_
              rintro v S1 ⟨rfl, Co2, Cp2, T2, ts2, rfl, ho2, hpl2, hd2, hok2, etv, eup⟩
              refine Ex.sub (S' := [sDa a pl w un fe dr f, Cp2, sTw w pl r true 0 (nI i), Co2, Cu, Cf, Cd, T2, sHs hs, Cs, X, [(x.1, .inr (6, [.int (nI x.2.1), .ref rb, .int (nI (fsum x.2.2.1))]))], Cb, Y]) [0, 10, 8, 9, 1, 2, 11, 12, 13, 3, 4, 5, 6, 7] rfl rfl ?_
              refine s49 ts2 T2 Cp2 Co2 (capN c 0 (textD 0 (nI i) (ts'.map tvo) (hs.map (fun h => h.2))).length) _ _ hpl2 (by rw [htv', hhv] at ho2 ⊢; exact ho2) hd2 hok2 (by rw [etv, htv']) (by omega) (by omega) (by omega) (by dsimp only [rm]; omega) (by dsimp only [rm]; omega) _ (fun q h => ?_)
              simp only [List.mem_cons, List.not_mem_nil, or_false] at h
              rcases h with rfl | rfl | rfl <;> first | (simp [xs1, lv_args, Value.category, b32, nI]; done) | (simp [xs1, lv_args, Value.category, b32, nI]; decide) | (simp [xs1, lv_args, Value.category, b32, nI]; exact Or.inr (by decide))
    refine Ex.p rfl ?_
    refine Ex.p rfl ?_
    refine Ex.p rfl ?_
    refine Ex.p rfl ?_
    refine Ex.more (k' := 15 * (upl ts - upl ts) + (c0 - c0) / 8) (n' := 240 * (upl ts - upl ts) + 2 * (c0 - c0)) (Nat.zero_le _) (Nat.zero_le _) ?_
    refine loop 9 0 kn ts T Cp Co kp kf kt c0 xs (by omega) (by omega) hkn31 hpl ho hk hd hok htv (Nat.le_refl _) (Nat.le_refl _) (by omega) hP _ (fun q h => ?_)
    simp only [List.mem_cons, List.not_mem_nil, or_false] at h
    rcases h with rfl | rfl | rfl <;> first | (simp [xs1, lv_args, Value.category, b32, nI]; done) | (simp [xs1, lv_args, Value.category, b32, nI]; decide) | (simp [xs1, lv_args, Value.category, b32, nI]; exact Or.inr (by decide))
  · have c : ¬ 0 ≤ k9 := c
    rw [Int32.le_iff_toInt_le] at c
    have c : ¬ 0 ≤ k9.toInt := c
    rw [if_neg c] at hP
    refine Ex.p rfl ?_
    refine Ex.iret rfl rfl (Nat.zero_le _) (Nat.zero_le _) rfl ?_
    subst hP
    exact ⟨_, rfl, rfl, hz⟩
theorem ct_Da_agrees {a : Nat} {z : SD} {S : List va_W} (h : IsDa D a z S) (hr : rmOk R 9 786 12580) : Ct l mDa_agrees D R [.ref a] S (QR D a (aAgree z)) := by
  obtain ⟨r1, r2, r3, r4⟩ := hr
  obtain ⟨pl, w, un, fe, dr, f, r, kp, kf, kt, c0, c1, c2, xs, ts, hs, fs, Cp, Co, Cu, Cf, Cd, T, Cs, F, rfl, h9⟩ := id h
  refine Ct.of rfl (by decide) tkDa_agrees (Nat.le_of_ble_eq_true rfl) (fun A => ?_)
  refine Ex.p rfl ?_
  refine Ex.p rfl ?_
  refine Ex.cv (Mc := mDa_told) (Rc := rm 8 786 12580) (As := [.int 0]) (rest := []) (Sr := []) (ic := 0) (jc := 0) (ci := 0) [0, 1, 2, 3, 4, 5, 6, 7, 8, 9, 10] [] (ct_Da_told h (rm_ok _ _ _)) rfl lk_0_187 lcDa_told rfl rfl rfl rfl rfl (by decide) rfl rfl rfl (by decide) ⟨by dsimp only [rm]; omega, by show 8 + (5 + 11) + 320 ≤ R.locals; omega⟩ (Nat.le_of_ble_eq_true rfl) (by dsimp only [rm]; omega) (by dsimp only [rm]; omega) ?_
  rintro v S1 ⟨x, hx, rfl, hS1⟩
  have hx : (Sum.inr (Value.int (if 0 ≤ (0 : Int32).toInt then tld (wrg z) 8 0 (0 : Int32).toInt.toNat else -1)) : Nat ⊕ Value) = .inr x := hx
  rw [if_pos (by decide)] at hx
  cases hx
  have hS1 : IsDa D a z S1 := hS1
  refine Ex.p rfl ?_
  refine Ex.br rfl (fun c => ?_) (fun c => ?_)
  · have c : ¬ tld (wrg z) 8 0 0 = -1 := c
    refine Ex.p rfl ?_
    refine Ex.zret rfl rfl (Or.inl rfl) (by dsimp only [rm]; omega) (by dsimp only [rm]; omega) rfl ?_
    exact ⟨_, rfl, by rw [decide_eq_false c]; rfl, hS1⟩
  · have c : ¬ ¬ tld (wrg z) 8 0 0 = -1 := c
    have c := Decidable.not_not.mp c
    refine Ex.p rfl ?_
    refine Ex.p rfl ?_
    refine Ex.zret rfl rfl (Or.inr rfl) (by dsimp only [rm]; omega) (by dsimp only [rm]; omega) rfl ?_
    exact ⟨_, rfl, by rw [decide_eq_true c]; rfl, hS1⟩
end DA7
end
