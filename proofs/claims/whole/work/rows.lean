section
-- ===== PART A: goes FIRST, ahead of the names: the tables' words, and 'selects' of the private methods out of them =====
/-- a private method of a class that the tables say can be made, by its rows of tables_1 -/
def lw_okq (q : MethodName × Nat) : Prop := (q.1.cls ≠ "java/lang/invoke/MethodHandle" ∧ q.1.cls ≠ "java/lang/invoke/VarHandle") ∧ Cond.instantiable q.1.cls q.2 ∈ tables_1 ∧ Cond.privateMethod q.1 ∈ tables_1 ∧ Cond.instanceMethod q.1 ∈ tables_1
theorem lw_p0 : lw_okq (⟨"DrillArchive$TextReader", "readLayers", "()Z"⟩, 9) := ⟨⟨by decide +kernel, by decide +kernel⟩, List.mem_of_getElem? (i := 233) (by decide +kernel), List.mem_of_getElem? (i := 271) (by decide +kernel), List.mem_of_getElem? (i := 272) (by decide +kernel)⟩
theorem lw_p1 : lw_okq (⟨"DrillArchive$TextReader", "passes", "(Ljava/lang/String;)Z"⟩, 9) := ⟨⟨by decide +kernel, by decide +kernel⟩, List.mem_of_getElem? (i := 233) (by decide +kernel), List.mem_of_getElem? (i := 276) (by decide +kernel), List.mem_of_getElem? (i := 277) (by decide +kernel)⟩
theorem lw_p2 : lw_okq (⟨"DrillArchive$TextReader", "readLayerLine", "()Z"⟩, 9) := ⟨⟨by decide +kernel, by decide +kernel⟩, List.mem_of_getElem? (i := 233) (by decide +kernel), List.mem_of_getElem? (i := 332) (by decide +kernel), List.mem_of_getElem? (i := 333) (by decide +kernel)⟩
theorem lw_p3 : lw_okq (⟨"DrillArchive$TextReader", "readPart", "(CZ)Z"⟩, 9) := ⟨⟨by decide +kernel, by decide +kernel⟩, List.mem_of_getElem? (i := 233) (by decide +kernel), List.mem_of_getElem? (i := 336) (by decide +kernel), List.mem_of_getElem? (i := 337) (by decide +kernel)⟩
theorem lw_p4 : lw_okq (⟨"DrillArchive$TextReader", "can", "(ZI)Z"⟩, 9) := ⟨⟨by decide +kernel, by decide +kernel⟩, List.mem_of_getElem? (i := 233) (by decide +kernel), List.mem_of_getElem? (i := 347) (by decide +kernel), List.mem_of_getElem? (i := 348) (by decide +kernel)⟩
theorem lw_p5 : lw_okq (⟨"DrillArchive$TextReader", "readTools", "()Z"⟩, 9) := ⟨⟨by decide +kernel, by decide +kernel⟩, List.mem_of_getElem? (i := 233) (by decide +kernel), List.mem_of_getElem? (i := 351) (by decide +kernel), List.mem_of_getElem? (i := 352) (by decide +kernel)⟩
theorem lw_p6 : lw_okq (⟨"DrillArchive$TextReader", "readToolLine", "()Z"⟩, 9) := ⟨⟨by decide +kernel, by decide +kernel⟩, List.mem_of_getElem? (i := 233) (by decide +kernel), List.mem_of_getElem? (i := 355) (by decide +kernel), List.mem_of_getElem? (i := 356) (by decide +kernel)⟩
theorem lw_p7 : lw_okq (⟨"DrillArchive$TextReader", "readHits", "()Z"⟩, 9) := ⟨⟨by decide +kernel, by decide +kernel⟩, List.mem_of_getElem? (i := 233) (by decide +kernel), List.mem_of_getElem? (i := 405) (by decide +kernel), List.mem_of_getElem? (i := 406) (by decide +kernel)⟩
theorem lw_p8 : lw_okq (⟨"DrillArchive$TextReader", "readHitLine", "()Z"⟩, 9) := ⟨⟨by decide +kernel, by decide +kernel⟩, List.mem_of_getElem? (i := 233) (by decide +kernel), List.mem_of_getElem? (i := 409) (by decide +kernel), List.mem_of_getElem? (i := 410) (by decide +kernel)⟩
theorem lw_p9 : lw_okq (⟨"DrillArchive$TextReader", "readPlace", "()Z"⟩, 9) := ⟨⟨by decide +kernel, by decide +kernel⟩, List.mem_of_getElem? (i := 233) (by decide +kernel), List.mem_of_getElem? (i := 413) (by decide +kernel), List.mem_of_getElem? (i := 414) (by decide +kernel)⟩
theorem lw_p10 : lw_okq (⟨"DrillArchive$TextReader", "readChoiceLine", "()Z"⟩, 9) := ⟨⟨by decide +kernel, by decide +kernel⟩, List.mem_of_getElem? (i := 233) (by decide +kernel), List.mem_of_getElem? (i := 438) (by decide +kernel), List.mem_of_getElem? (i := 439) (by decide +kernel)⟩
theorem lw_p11 : lw_okq (⟨"DrillArchive$FileSet", "takeFile", "(LDrillArchive$Row;I)I"⟩, 2) := ⟨⟨by decide +kernel, by decide +kernel⟩, List.mem_of_getElem? (i := 170) (by decide +kernel), List.mem_of_getElem? (i := 468) (by decide +kernel), List.mem_of_getElem? (i := 469) (by decide +kernel)⟩
theorem lw_p12 : lw_okq (⟨"DrillArchive$TextWriter", "writeHead", "(LDrillArchive$Drawing;)V"⟩, 5) := ⟨⟨by decide +kernel, by decide +kernel⟩, List.mem_of_getElem? (i := 99) (by decide +kernel), List.mem_of_getElem? (i := 531) (by decide +kernel), List.mem_of_getElem? (i := 532) (by decide +kernel)⟩
theorem lw_p13 : lw_okq (⟨"DrillArchive$Planner", "gather", "(LDrillArchive$Drawing;LDrillArchive$Tool;)V"⟩, 7) := ⟨⟨by decide +kernel, by decide +kernel⟩, List.mem_of_getElem? (i := 33) (by decide +kernel), List.mem_of_getElem? (i := 565) (by decide +kernel), List.mem_of_getElem? (i := 566) (by decide +kernel)⟩
theorem lw_p14 : lw_okq (⟨"DrillArchive$Planner", "measureWays", "()V"⟩, 7) := ⟨⟨by decide +kernel, by decide +kernel⟩, List.mem_of_getElem? (i := 33) (by decide +kernel), List.mem_of_getElem? (i := 574) (by decide +kernel), List.mem_of_getElem? (i := 575) (by decide +kernel)⟩
theorem lw_p15 : lw_okq (⟨"DrillArchive$Planner", "measureRest", "()V"⟩, 7) := ⟨⟨by decide +kernel, by decide +kernel⟩, List.mem_of_getElem? (i := 33) (by decide +kernel), List.mem_of_getElem? (i := 586) (by decide +kernel), List.mem_of_getElem? (i := 587) (by decide +kernel)⟩
def lw_privs_1 : List (MethodName × Nat) := [(⟨"DrillArchive$TextReader", "readLayers", "()Z"⟩, 9), (⟨"DrillArchive$TextReader", "passes", "(Ljava/lang/String;)Z"⟩, 9), (⟨"DrillArchive$TextReader", "readLayerLine", "()Z"⟩, 9), (⟨"DrillArchive$TextReader", "readPart", "(CZ)Z"⟩, 9), (⟨"DrillArchive$TextReader", "can", "(ZI)Z"⟩, 9), (⟨"DrillArchive$TextReader", "readTools", "()Z"⟩, 9), (⟨"DrillArchive$TextReader", "readToolLine", "()Z"⟩, 9), (⟨"DrillArchive$TextReader", "readHits", "()Z"⟩, 9), (⟨"DrillArchive$TextReader", "readHitLine", "()Z"⟩, 9), (⟨"DrillArchive$TextReader", "readPlace", "()Z"⟩, 9), (⟨"DrillArchive$TextReader", "readChoiceLine", "()Z"⟩, 9), (⟨"DrillArchive$FileSet", "takeFile", "(LDrillArchive$Row;I)I"⟩, 2), (⟨"DrillArchive$TextWriter", "writeHead", "(LDrillArchive$Drawing;)V"⟩, 5), (⟨"DrillArchive$Planner", "gather", "(LDrillArchive$Drawing;LDrillArchive$Tool;)V"⟩, 7), (⟨"DrillArchive$Planner", "measureWays", "()V"⟩, 7), (⟨"DrillArchive$Planner", "measureRest", "()V"⟩, 7)]
theorem lw_r1 : ∀ q ∈ lw_privs_1, lw_okq q := List.forall_mem_cons.mpr ⟨lw_p0, List.forall_mem_cons.mpr ⟨lw_p1, List.forall_mem_cons.mpr ⟨lw_p2, List.forall_mem_cons.mpr ⟨lw_p3, List.forall_mem_cons.mpr ⟨lw_p4, List.forall_mem_cons.mpr ⟨lw_p5, List.forall_mem_cons.mpr ⟨lw_p6, List.forall_mem_cons.mpr ⟨lw_p7, List.forall_mem_cons.mpr ⟨lw_p8, List.forall_mem_cons.mpr ⟨lw_p9, List.forall_mem_cons.mpr ⟨lw_p10, List.forall_mem_cons.mpr ⟨lw_p11, List.forall_mem_cons.mpr ⟨lw_p12, List.forall_mem_cons.mpr ⟨lw_p13, List.forall_mem_cons.mpr ⟨lw_p14, List.forall_mem_cons.mpr ⟨lw_p15, fun _ h => absurd h List.not_mem_nil⟩⟩⟩⟩⟩⟩⟩⟩⟩⟩⟩⟩⟩⟩⟩⟩
theorem lw_p16 : lw_okq (⟨"DrillArchive$Planner", "bestNext", "(II)I"⟩, 7) := ⟨⟨by decide +kernel, by decide +kernel⟩, List.mem_of_getElem? (i := 33) (by decide +kernel), List.mem_of_getElem? (i := 590) (by decide +kernel), List.mem_of_getElem? (i := 591) (by decide +kernel)⟩
theorem lw_p17 : lw_okq (⟨"DrillArchive$Planner", "planLeast", "(LDrillArchive$Tool;)V"⟩, 7) := ⟨⟨by decide +kernel, by decide +kernel⟩, List.mem_of_getElem? (i := 33) (by decide +kernel), List.mem_of_getElem? (i := 594) (by decide +kernel), List.mem_of_getElem? (i := 595) (by decide +kernel)⟩
theorem lw_p18 : lw_okq (⟨"DrillArchive$Planner", "planNearest", "(LDrillArchive$Tool;)V"⟩, 7) := ⟨⟨by decide +kernel, by decide +kernel⟩, List.mem_of_getElem? (i := 33) (by decide +kernel), List.mem_of_getElem? (i := 602) (by decide +kernel), List.mem_of_getElem? (i := 603) (by decide +kernel)⟩
theorem lw_p19 : lw_okq (⟨"DrillArchive$Planner", "nearest", "(LDrillArchive$Hit;)I"⟩, 7) := ⟨⟨by decide +kernel, by decide +kernel⟩, List.mem_of_getElem? (i := 33) (by decide +kernel), List.mem_of_getElem? (i := 606) (by decide +kernel), List.mem_of_getElem? (i := 607) (by decide +kernel)⟩
theorem lw_p20 : lw_okq (⟨"DrillArchive$TextWriter", "writeHits", "(LDrillArchive$Drawing;LDrillArchive$Tool;I)V"⟩, 5) := ⟨⟨by decide +kernel, by decide +kernel⟩, List.mem_of_getElem? (i := 99) (by decide +kernel), List.mem_of_getElem? (i := 610) (by decide +kernel), List.mem_of_getElem? (i := 611) (by decide +kernel)⟩
theorem lw_p21 : lw_okq (⟨"DrillArchive$TextWriter", "writeHit", "(LDrillArchive$Hit;)V"⟩, 5) := ⟨⟨by decide +kernel, by decide +kernel⟩, List.mem_of_getElem? (i := 99) (by decide +kernel), List.mem_of_getElem? (i := 616) (by decide +kernel), List.mem_of_getElem? (i := 617) (by decide +kernel)⟩
theorem lw_p22 : lw_okq (⟨"java/lang/Throwable", "fillInStackTrace", "(I)Ljava/lang/Throwable;"⟩, 6) := ⟨⟨by decide +kernel, by decide +kernel⟩, List.mem_of_getElem? (i := 682) (by decide +kernel), List.mem_of_getElem? (i := 680) (by decide +kernel), List.mem_of_getElem? (i := 681) (by decide +kernel)⟩
theorem lw_p23 : lw_okq (⟨"DrillArchive", "knownTool", "(I)LDrillArchive$Tool;"⟩, 6) := ⟨⟨by decide +kernel, by decide +kernel⟩, List.mem_of_getElem? (i := 25) (by decide +kernel), List.mem_of_getElem? (i := 720) (by decide +kernel), List.mem_of_getElem? (i := 721) (by decide +kernel)⟩
theorem lw_p24 : lw_okq (⟨"DrillArchive", "knownFile", "(I)LDrillArchive$StoredFile;"⟩, 6) := ⟨⟨by decide +kernel, by decide +kernel⟩, List.mem_of_getElem? (i := 25) (by decide +kernel), List.mem_of_getElem? (i := 818) (by decide +kernel), List.mem_of_getElem? (i := 819) (by decide +kernel)⟩
theorem lw_p25 : lw_okq (⟨"DrillArchiveModel", "addTool", "(IJZ)I"⟩, 39) := ⟨⟨by decide +kernel, by decide +kernel⟩, List.mem_of_getElem? (i := 854) (by decide +kernel), List.mem_of_getElem? (i := 995) (by decide +kernel), List.mem_of_getElem? (i := 996) (by decide +kernel)⟩
theorem lw_p26 : lw_okq (⟨"DrillArchiveModel", "isTool", "(I)Z"⟩, 39) := ⟨⟨by decide +kernel, by decide +kernel⟩, List.mem_of_getElem? (i := 854) (by decide +kernel), List.mem_of_getElem? (i := 1003) (by decide +kernel), List.mem_of_getElem? (i := 1004) (by decide +kernel)⟩
theorem lw_p27 : lw_okq (⟨"DrillArchiveModel", "addHit", "(IIJJJJIIZ)I"⟩, 39) := ⟨⟨by decide +kernel, by decide +kernel⟩, List.mem_of_getElem? (i := 854) (by decide +kernel), List.mem_of_getElem? (i := 1016) (by decide +kernel), List.mem_of_getElem? (i := 1017) (by decide +kernel)⟩
theorem lw_p28 : lw_okq (⟨"DrillArchiveModel", "findOrder", "(I)V"⟩, 39) := ⟨⟨by decide +kernel, by decide +kernel⟩, List.mem_of_getElem? (i := 854) (by decide +kernel), List.mem_of_getElem? (i := 1032) (by decide +kernel), List.mem_of_getElem? (i := 1033) (by decide +kernel)⟩
theorem lw_p29 : lw_okq (⟨"DrillArchiveModel", "collect", "(I)V"⟩, 39) := ⟨⟨by decide +kernel, by decide +kernel⟩, List.mem_of_getElem? (i := 854) (by decide +kernel), List.mem_of_getElem? (i := 1036) (by decide +kernel), List.mem_of_getElem? (i := 1037) (by decide +kernel)⟩
theorem lw_p30 : lw_okq (⟨"DrillArchiveModel", "orderNearest", "()V"⟩, 39) := ⟨⟨by decide +kernel, by decide +kernel⟩, List.mem_of_getElem? (i := 854) (by decide +kernel), List.mem_of_getElem? (i := 1040) (by decide +kernel), List.mem_of_getElem? (i := 1041) (by decide +kernel)⟩
theorem lw_p31 : lw_okq (⟨"DrillArchiveModel", "way", "(II)J"⟩, 39) := ⟨⟨by decide +kernel, by decide +kernel⟩, List.mem_of_getElem? (i := 854) (by decide +kernel), List.mem_of_getElem? (i := 1044) (by decide +kernel), List.mem_of_getElem? (i := 1045) (by decide +kernel)⟩
def lw_privs_2 : List (MethodName × Nat) := [(⟨"DrillArchive$Planner", "bestNext", "(II)I"⟩, 7), (⟨"DrillArchive$Planner", "planLeast", "(LDrillArchive$Tool;)V"⟩, 7), (⟨"DrillArchive$Planner", "planNearest", "(LDrillArchive$Tool;)V"⟩, 7), (⟨"DrillArchive$Planner", "nearest", "(LDrillArchive$Hit;)I"⟩, 7), (⟨"DrillArchive$TextWriter", "writeHits", "(LDrillArchive$Drawing;LDrillArchive$Tool;I)V"⟩, 5), (⟨"DrillArchive$TextWriter", "writeHit", "(LDrillArchive$Hit;)V"⟩, 5), (⟨"java/lang/Throwable", "fillInStackTrace", "(I)Ljava/lang/Throwable;"⟩, 6), (⟨"DrillArchive", "knownTool", "(I)LDrillArchive$Tool;"⟩, 6), (⟨"DrillArchive", "knownFile", "(I)LDrillArchive$StoredFile;"⟩, 6), (⟨"DrillArchiveModel", "addTool", "(IJZ)I"⟩, 39), (⟨"DrillArchiveModel", "isTool", "(I)Z"⟩, 39), (⟨"DrillArchiveModel", "addHit", "(IIJJJJIIZ)I"⟩, 39), (⟨"DrillArchiveModel", "findOrder", "(I)V"⟩, 39), (⟨"DrillArchiveModel", "collect", "(I)V"⟩, 39), (⟨"DrillArchiveModel", "orderNearest", "()V"⟩, 39), (⟨"DrillArchiveModel", "way", "(II)J"⟩, 39)]
theorem lw_r2 : ∀ q ∈ lw_privs_2, lw_okq q := List.forall_mem_cons.mpr ⟨lw_p16, List.forall_mem_cons.mpr ⟨lw_p17, List.forall_mem_cons.mpr ⟨lw_p18, List.forall_mem_cons.mpr ⟨lw_p19, List.forall_mem_cons.mpr ⟨lw_p20, List.forall_mem_cons.mpr ⟨lw_p21, List.forall_mem_cons.mpr ⟨lw_p22, List.forall_mem_cons.mpr ⟨lw_p23, List.forall_mem_cons.mpr ⟨lw_p24, List.forall_mem_cons.mpr ⟨lw_p25, List.forall_mem_cons.mpr ⟨lw_p26, List.forall_mem_cons.mpr ⟨lw_p27, List.forall_mem_cons.mpr ⟨lw_p28, List.forall_mem_cons.mpr ⟨lw_p29, List.forall_mem_cons.mpr ⟨lw_p30, List.forall_mem_cons.mpr ⟨lw_p31, fun _ h => absurd h List.not_mem_nil⟩⟩⟩⟩⟩⟩⟩⟩⟩⟩⟩⟩⟩⟩⟩⟩
theorem lw_p32 : lw_okq (⟨"DrillArchiveModel", "orderExactly", "()V"⟩, 39) := ⟨⟨by decide +kernel, by decide +kernel⟩, List.mem_of_getElem? (i := 854) (by decide +kernel), List.mem_of_getElem? (i := 1054) (by decide +kernel), List.mem_of_getElem? (i := 1055) (by decide +kernel)⟩
theorem lw_p33 : lw_okq (⟨"DrillArchiveModel", "layText", "(II)V"⟩, 39) := ⟨⟨by decide +kernel, by decide +kernel⟩, List.mem_of_getElem? (i := 854) (by decide +kernel), List.mem_of_getElem? (i := 1071) (by decide +kernel), List.mem_of_getElem? (i := 1072) (by decide +kernel)⟩
theorem lw_p34 : lw_okq (⟨"DrillArchiveModel", "say", "(I)V"⟩, 39) := ⟨⟨by decide +kernel, by decide +kernel⟩, List.mem_of_getElem? (i := 854) (by decide +kernel), List.mem_of_getElem? (i := 1075) (by decide +kernel), List.mem_of_getElem? (i := 1076) (by decide +kernel)⟩
theorem lw_p35 : lw_okq (⟨"DrillArchiveModel", "sayNumber", "(J)V"⟩, 39) := ⟨⟨by decide +kernel, by decide +kernel⟩, List.mem_of_getElem? (i := 854) (by decide +kernel), List.mem_of_getElem? (i := 1079) (by decide +kernel), List.mem_of_getElem? (i := 1080) (by decide +kernel)⟩
theorem lw_p36 : lw_okq (⟨"DrillArchiveModel", "sayTool", "(I)V"⟩, 39) := ⟨⟨by decide +kernel, by decide +kernel⟩, List.mem_of_getElem? (i := 854) (by decide +kernel), List.mem_of_getElem? (i := 1084) (by decide +kernel), List.mem_of_getElem? (i := 1085) (by decide +kernel)⟩
theorem lw_p37 : lw_okq (⟨"DrillArchiveModel", "sayHit", "(I)V"⟩, 39) := ⟨⟨by decide +kernel, by decide +kernel⟩, List.mem_of_getElem? (i := 854) (by decide +kernel), List.mem_of_getElem? (i := 1088) (by decide +kernel), List.mem_of_getElem? (i := 1089) (by decide +kernel)⟩
theorem lw_p38 : lw_okq (⟨"DrillArchiveModel", "sayPlace", "(JJ)V"⟩, 39) := ⟨⟨by decide +kernel, by decide +kernel⟩, List.mem_of_getElem? (i := 854) (by decide +kernel), List.mem_of_getElem? (i := 1092) (by decide +kernel), List.mem_of_getElem? (i := 1093) (by decide +kernel)⟩
theorem lw_p39 : lw_okq (⟨"DrillArchiveModel", "readLine", "()V"⟩, 39) := ⟨⟨by decide +kernel, by decide +kernel⟩, List.mem_of_getElem? (i := 854) (by decide +kernel), List.mem_of_getElem? (i := 1104) (by decide +kernel), List.mem_of_getElem? (i := 1105) (by decide +kernel)⟩
theorem lw_p40 : lw_okq (⟨"DrillArchiveModel", "expect", "(I)V"⟩, 39) := ⟨⟨by decide +kernel, by decide +kernel⟩, List.mem_of_getElem? (i := 854) (by decide +kernel), List.mem_of_getElem? (i := 1108) (by decide +kernel), List.mem_of_getElem? (i := 1109) (by decide +kernel)⟩
theorem lw_p41 : lw_okq (⟨"DrillArchiveModel", "now", "()I"⟩, 39) := ⟨⟨by decide +kernel, by decide +kernel⟩, List.mem_of_getElem? (i := 854) (by decide +kernel), List.mem_of_getElem? (i := 1112) (by decide +kernel), List.mem_of_getElem? (i := 1113) (by decide +kernel)⟩
theorem lw_p42 : lw_okq (⟨"DrillArchiveModel", "endLine", "()Z"⟩, 39) := ⟨⟨by decide +kernel, by decide +kernel⟩, List.mem_of_getElem? (i := 854) (by decide +kernel), List.mem_of_getElem? (i := 1116) (by decide +kernel), List.mem_of_getElem? (i := 1117) (by decide +kernel)⟩
theorem lw_p43 : lw_okq (⟨"DrillArchiveModel", "readFirst", "()V"⟩, 39) := ⟨⟨by decide +kernel, by decide +kernel⟩, List.mem_of_getElem? (i := 854) (by decide +kernel), List.mem_of_getElem? (i := 1120) (by decide +kernel), List.mem_of_getElem? (i := 1121) (by decide +kernel)⟩
theorem lw_p44 : lw_okq (⟨"DrillArchiveModel", "readLayers", "()V"⟩, 39) := ⟨⟨by decide +kernel, by decide +kernel⟩, List.mem_of_getElem? (i := 854) (by decide +kernel), List.mem_of_getElem? (i := 1124) (by decide +kernel), List.mem_of_getElem? (i := 1125) (by decide +kernel)⟩
theorem lw_p45 : lw_okq (⟨"DrillArchiveModel", "whole", "()J"⟩, 39) := ⟨⟨by decide +kernel, by decide +kernel⟩, List.mem_of_getElem? (i := 854) (by decide +kernel), List.mem_of_getElem? (i := 1128) (by decide +kernel), List.mem_of_getElem? (i := 1129) (by decide +kernel)⟩
theorem lw_p46 : lw_okq (⟨"DrillArchiveModel", "isDigit", "()Z"⟩, 39) := ⟨⟨by decide +kernel, by decide +kernel⟩, List.mem_of_getElem? (i := 854) (by decide +kernel), List.mem_of_getElem? (i := 1132) (by decide +kernel), List.mem_of_getElem? (i := 1133) (by decide +kernel)⟩
theorem lw_p47 : lw_okq (⟨"DrillArchiveModel", "must", "(Z)V"⟩, 39) := ⟨⟨by decide +kernel, by decide +kernel⟩, List.mem_of_getElem? (i := 854) (by decide +kernel), List.mem_of_getElem? (i := 1137) (by decide +kernel), List.mem_of_getElem? (i := 1138) (by decide +kernel)⟩
def lw_privs_3 : List (MethodName × Nat) := [(⟨"DrillArchiveModel", "orderExactly", "()V"⟩, 39), (⟨"DrillArchiveModel", "layText", "(II)V"⟩, 39), (⟨"DrillArchiveModel", "say", "(I)V"⟩, 39), (⟨"DrillArchiveModel", "sayNumber", "(J)V"⟩, 39), (⟨"DrillArchiveModel", "sayTool", "(I)V"⟩, 39), (⟨"DrillArchiveModel", "sayHit", "(I)V"⟩, 39), (⟨"DrillArchiveModel", "sayPlace", "(JJ)V"⟩, 39), (⟨"DrillArchiveModel", "readLine", "()V"⟩, 39), (⟨"DrillArchiveModel", "expect", "(I)V"⟩, 39), (⟨"DrillArchiveModel", "now", "()I"⟩, 39), (⟨"DrillArchiveModel", "endLine", "()Z"⟩, 39), (⟨"DrillArchiveModel", "readFirst", "()V"⟩, 39), (⟨"DrillArchiveModel", "readLayers", "()V"⟩, 39), (⟨"DrillArchiveModel", "whole", "()J"⟩, 39), (⟨"DrillArchiveModel", "isDigit", "()Z"⟩, 39), (⟨"DrillArchiveModel", "must", "(Z)V"⟩, 39)]
theorem lw_r3 : ∀ q ∈ lw_privs_3, lw_okq q := List.forall_mem_cons.mpr ⟨lw_p32, List.forall_mem_cons.mpr ⟨lw_p33, List.forall_mem_cons.mpr ⟨lw_p34, List.forall_mem_cons.mpr ⟨lw_p35, List.forall_mem_cons.mpr ⟨lw_p36, List.forall_mem_cons.mpr ⟨lw_p37, List.forall_mem_cons.mpr ⟨lw_p38, List.forall_mem_cons.mpr ⟨lw_p39, List.forall_mem_cons.mpr ⟨lw_p40, List.forall_mem_cons.mpr ⟨lw_p41, List.forall_mem_cons.mpr ⟨lw_p42, List.forall_mem_cons.mpr ⟨lw_p43, List.forall_mem_cons.mpr ⟨lw_p44, List.forall_mem_cons.mpr ⟨lw_p45, List.forall_mem_cons.mpr ⟨lw_p46, List.forall_mem_cons.mpr ⟨lw_p47, fun _ h => absurd h List.not_mem_nil⟩⟩⟩⟩⟩⟩⟩⟩⟩⟩⟩⟩⟩⟩⟩⟩
theorem lw_p48 : lw_okq (⟨"DrillArchiveModel", "readTool", "()V"⟩, 39) := ⟨⟨by decide +kernel, by decide +kernel⟩, List.mem_of_getElem? (i := 854) (by decide +kernel), List.mem_of_getElem? (i := 1141) (by decide +kernel), List.mem_of_getElem? (i := 1142) (by decide +kernel)⟩
theorem lw_p49 : lw_okq (⟨"DrillArchiveModel", "readSecond", "()V"⟩, 39) := ⟨⟨by decide +kernel, by decide +kernel⟩, List.mem_of_getElem? (i := 854) (by decide +kernel), List.mem_of_getElem? (i := 1145) (by decide +kernel), List.mem_of_getElem? (i := 1146) (by decide +kernel)⟩
theorem lw_p50 : lw_okq (⟨"DrillArchiveModel", "readHit", "()V"⟩, 39) := ⟨⟨by decide +kernel, by decide +kernel⟩, List.mem_of_getElem? (i := 854) (by decide +kernel), List.mem_of_getElem? (i := 1149) (by decide +kernel), List.mem_of_getElem? (i := 1150) (by decide +kernel)⟩
theorem lw_p51 : lw_okq (⟨"DrillArchiveModel", "number", "()J"⟩, 39) := ⟨⟨by decide +kernel, by decide +kernel⟩, List.mem_of_getElem? (i := 854) (by decide +kernel), List.mem_of_getElem? (i := 1153) (by decide +kernel), List.mem_of_getElem? (i := 1154) (by decide +kernel)⟩
theorem lw_p52 : lw_okq (⟨"DrillArchiveModel", "fileWith", "(I)I"⟩, 39) := ⟨⟨by decide +kernel, by decide +kernel⟩, List.mem_of_getElem? (i := 854) (by decide +kernel), List.mem_of_getElem? (i := 1161) (by decide +kernel), List.mem_of_getElem? (i := 1162) (by decide +kernel)⟩
theorem lw_p53 : lw_okq (⟨"DrillArchiveModel", "isFile", "(I)Z"⟩, 39) := ⟨⟨by decide +kernel, by decide +kernel⟩, List.mem_of_getElem? (i := 854) (by decide +kernel), List.mem_of_getElem? (i := 1169) (by decide +kernel), List.mem_of_getElem? (i := 1170) (by decide +kernel)⟩
theorem lw_p54 : lw_okq (⟨"DrillArchiveModel", "sumOf", "(I)I"⟩, 39) := ⟨⟨by decide +kernel, by decide +kernel⟩, List.mem_of_getElem? (i := 854) (by decide +kernel), List.mem_of_getElem? (i := 1180) (by decide +kernel), List.mem_of_getElem? (i := 1181) (by decide +kernel)⟩
theorem lw_p55 : lw_okq (⟨"DrillArchiveModel", "put", "(I)V"⟩, 39) := ⟨⟨by decide +kernel, by decide +kernel⟩, List.mem_of_getElem? (i := 854) (by decide +kernel), List.mem_of_getElem? (i := 1189) (by decide +kernel), List.mem_of_getElem? (i := 1190) (by decide +kernel)⟩
theorem lw_p56 : lw_okq (⟨"DrillArchiveModel", "walk", "(Z)I"⟩, 39) := ⟨⟨by decide +kernel, by decide +kernel⟩, List.mem_of_getElem? (i := 854) (by decide +kernel), List.mem_of_getElem? (i := 1201) (by decide +kernel), List.mem_of_getElem? (i := 1202) (by decide +kernel)⟩
theorem lw_p57 : lw_okq (⟨"DrillArchiveModel", "isText", "(I)Z"⟩, 39) := ⟨⟨by decide +kernel, by decide +kernel⟩, List.mem_of_getElem? (i := 854) (by decide +kernel), List.mem_of_getElem? (i := 1209) (by decide +kernel), List.mem_of_getElem? (i := 1210) (by decide +kernel)⟩
def lw_privs_4 : List (MethodName × Nat) := [(⟨"DrillArchiveModel", "readTool", "()V"⟩, 39), (⟨"DrillArchiveModel", "readSecond", "()V"⟩, 39), (⟨"DrillArchiveModel", "readHit", "()V"⟩, 39), (⟨"DrillArchiveModel", "number", "()J"⟩, 39), (⟨"DrillArchiveModel", "fileWith", "(I)I"⟩, 39), (⟨"DrillArchiveModel", "isFile", "(I)Z"⟩, 39), (⟨"DrillArchiveModel", "sumOf", "(I)I"⟩, 39), (⟨"DrillArchiveModel", "put", "(I)V"⟩, 39), (⟨"DrillArchiveModel", "walk", "(Z)I"⟩, 39), (⟨"DrillArchiveModel", "isText", "(I)Z"⟩, 39)]
theorem lw_r4 : ∀ q ∈ lw_privs_4, lw_okq q := List.forall_mem_cons.mpr ⟨lw_p48, List.forall_mem_cons.mpr ⟨lw_p49, List.forall_mem_cons.mpr ⟨lw_p50, List.forall_mem_cons.mpr ⟨lw_p51, List.forall_mem_cons.mpr ⟨lw_p52, List.forall_mem_cons.mpr ⟨lw_p53, List.forall_mem_cons.mpr ⟨lw_p54, List.forall_mem_cons.mpr ⟨lw_p55, List.forall_mem_cons.mpr ⟨lw_p56, List.forall_mem_cons.mpr ⟨lw_p57, fun _ h => absurd h List.not_mem_nil⟩⟩⟩⟩⟩⟩⟩⟩⟩⟩
def lw_privs : List (MethodName × Nat) := lw_privs_1 ++ (lw_privs_2 ++ (lw_privs_3 ++ (lw_privs_4)))
def lw_tbl : List Cond := k2_sels lw_privs ++ tables_1
theorem lw_privs_ok : ∀ q ∈ lw_privs, lw_okq q := by
  show ∀ q ∈ lw_privs_1 ++ (lw_privs_2 ++ (lw_privs_3 ++ (lw_privs_4))), lw_okq q
  exact List.forall_mem_append.mpr ⟨lw_r1, List.forall_mem_append.mpr ⟨lw_r2, List.forall_mem_append.mpr ⟨lw_r3, lw_r4⟩⟩⟩
end
section
/-! names: classes, fields, methods, instruction tables (by program, wip/whole/gen/gen.py) -/
def RDa : String := "DrillArchive"
def TDa : u_T := fun k => match k with
  | 0 => ("DrillArchive", "planner", "LDrillArchive$Planner;", true)
  | 1 => ("DrillArchive", "writer", "LDrillArchive$TextWriter;", true)
  | 2 => ("DrillArchive", "units", "LDrillArchive$Row;", true)
  | 3 => ("DrillArchive", "fed", "LDrillArchive$Row;", true)
  | 4 => ("DrillArchive", "drawing", "LDrillArchive$Drawing;", false)
  | _ => ("DrillArchive", "files", "LDrillArchive$FileSet;", false)
def tyDa : Nat → FieldType := fun k => match k with
  | 0 => .object "DrillArchive$Planner"
  | 1 => .object "DrillArchive$TextWriter"
  | 2 => .object "DrillArchive$Row"
  | 3 => .object "DrillArchive$Row"
  | 4 => .object "DrillArchive$Drawing"
  | _ => .object "DrillArchive$FileSet"
theorem nmDa : ∀ a, a < 6 → ∀ b, b < 6 → a ≠ b → (TDa a).2.1 ≠ (TDa b).2.1 := by decide +kernel
theorem tyDa_ok : ∀ k, k < 6 → parseFieldDescriptor (TDa k).2.2.1 = some (tyDa k) := by decide +kernel
def RDr : String := "DrillArchive$Drawing"
def TDr : u_T := fun k => match k with
  | 0 => ("DrillArchive$Drawing", "tools", "[LDrillArchive$Tool;", true)
  | 1 => ("DrillArchive$Drawing", "hits", "[LDrillArchive$Hit;", true)
  | 2 => ("DrillArchive$Drawing", "toolCount", "I", false)
  | _ => ("DrillArchive$Drawing", "hitCount", "I", false)
def tyDr : Nat → FieldType := fun k => match k with
  | 0 => .array (.object "DrillArchive$Tool")
  | 1 => .array (.object "DrillArchive$Hit")
  | 2 => .int
  | _ => .int
theorem nmDr : ∀ a, a < 4 → ∀ b, b < 4 → a ≠ b → (TDr a).2.1 ≠ (TDr b).2.1 := by decide +kernel
theorem tyDr_ok : ∀ k, k < 4 → parseFieldDescriptor (TDr k).2.2.1 = some (tyDr k) := by decide +kernel
def RFs : String := "DrillArchive$FileSet"
def TFs : u_T := fun k => match k with
  | 0 => ("DrillArchive$FileSet", "files", "[LDrillArchive$StoredFile;", true)
  | _ => ("DrillArchive$FileSet", "count", "I", false)
def tyFs : Nat → FieldType := fun k => match k with
  | 0 => .array (.object "DrillArchive$StoredFile")
  | _ => .int
theorem nmFs : ∀ a, a < 2 → ∀ b, b < 2 → a ≠ b → (TFs a).2.1 ≠ (TFs b).2.1 := by decide +kernel
theorem tyFs_ok : ∀ k, k < 2 → parseFieldDescriptor (TFs k).2.2.1 = some (tyFs k) := by decide +kernel
def RHi : String := "DrillArchive$Hit"
def THi : u_T := fun k => match k with
  | 0 => ("DrillArchive$Hit", "tool", "I", true)
  | 1 => ("DrillArchive$Hit", "x", "I", true)
  | 2 => ("DrillArchive$Hit", "y", "I", true)
  | 3 => ("DrillArchive$Hit", "endX", "I", true)
  | 4 => ("DrillArchive$Hit", "endY", "I", true)
  | 5 => ("DrillArchive$Hit", "from", "I", true)
  | _ => ("DrillArchive$Hit", "to", "I", true)
def tyHi : Nat → FieldType := fun k => match k with
  | 0 => .int
  | 1 => .int
  | 2 => .int
  | 3 => .int
  | 4 => .int
  | 5 => .int
  | _ => .int
theorem nmHi : ∀ a, a < 7 → ∀ b, b < 7 → a ≠ b → (THi a).2.1 ≠ (THi b).2.1 := by decide +kernel
theorem tyHi_ok : ∀ k, k < 7 → parseFieldDescriptor (THi k).2.2.1 = some (tyHi k) := by decide +kernel
def RPl : String := "DrillArchive$Planner"
def TPl : u_T := fun k => match k with
  | 0 => ("DrillArchive$Planner", "origin", "LDrillArchive$Hit;", true)
  | 1 => ("DrillArchive$Planner", "mine", "[LDrillArchive$Hit;", true)
  | 2 => ("DrillArchive$Planner", "done", "[Z", true)
  | 3 => ("DrillArchive$Planner", "ways", "[I", true)
  | 4 => ("DrillArchive$Planner", "rest", "[I", true)
  | 5 => ("DrillArchive$Planner", "count", "I", false)
  | _ => ("DrillArchive$Planner", "least", "I", false)
def tyPl : Nat → FieldType := fun k => match k with
  | 0 => .object "DrillArchive$Hit"
  | 1 => .array (.object "DrillArchive$Hit")
  | 2 => .array (.boolean)
  | 3 => .array (.int)
  | 4 => .array (.int)
  | 5 => .int
  | _ => .int
theorem nmPl : ∀ a, a < 7 → ∀ b, b < 7 → a ≠ b → (TPl a).2.1 ≠ (TPl b).2.1 := by decide +kernel
theorem tyPl_ok : ∀ k, k < 7 → parseFieldDescriptor (TPl k).2.2.1 = some (tyPl k) := by decide +kernel
def RRo : String := "DrillArchive$Row"
def TRo : u_T := fun k => match k with
  | 0 => ("DrillArchive$Row", "limit", "I", true)
  | 1 => ("DrillArchive$Row", "cells", "[I", false)
  | _ => ("DrillArchive$Row", "count", "I", false)
def tyRo : Nat → FieldType := fun k => match k with
  | 0 => .int
  | 1 => .array (.int)
  | _ => .int
theorem nmRo : ∀ a, a < 3 → ∀ b, b < 3 → a ≠ b → (TRo a).2.1 ≠ (TRo b).2.1 := by decide +kernel
theorem tyRo_ok : ∀ k, k < 3 → parseFieldDescriptor (TRo k).2.2.1 = some (tyRo k) := by decide +kernel
def RSf : String := "DrillArchive$StoredFile"
def TSf : u_T := fun k => match k with
  | 0 => ("DrillArchive$StoredFile", "role", "I", true)
  | 1 => ("DrillArchive$StoredFile", "bytes", "LDrillArchive$Row;", true)
  | _ => ("DrillArchive$StoredFile", "total", "I", false)
def tySf : Nat → FieldType := fun k => match k with
  | 0 => .int
  | 1 => .object "DrillArchive$Row"
  | _ => .int
theorem nmSf : ∀ a, a < 3 → ∀ b, b < 3 → a ≠ b → (TSf a).2.1 ≠ (TSf b).2.1 := by decide +kernel
theorem tySf_ok : ∀ k, k < 3 → parseFieldDescriptor (TSf k).2.2.1 = some (tySf k) := by decide +kernel
def RTr : String := "DrillArchive$TextReader"
def TTr : u_T := fun k => match k with
  | 0 => ("DrillArchive$TextReader", "text", "LDrillArchive$Row;", true)
  | 1 => ("DrillArchive$TextReader", "drawing", "LDrillArchive$Drawing;", true)
  | 2 => ("DrillArchive$TextReader", "place", "I", false)
  | 3 => ("DrillArchive$TextReader", "from", "I", false)
  | 4 => ("DrillArchive$TextReader", "to", "I", false)
  | 5 => ("DrillArchive$TextReader", "chosen", "I", false)
  | 6 => ("DrillArchive$TextReader", "number", "I", false)
  | 7 => ("DrillArchive$TextReader", "placeX", "I", false)
  | _ => ("DrillArchive$TextReader", "placeY", "I", false)
def tyTr : Nat → FieldType := fun k => match k with
  | 0 => .object "DrillArchive$Row"
  | 1 => .object "DrillArchive$Drawing"
  | 2 => .int
  | 3 => .int
  | 4 => .int
  | 5 => .int
  | 6 => .int
  | 7 => .int
  | _ => .int
theorem nmTr : ∀ a, a < 9 → ∀ b, b < 9 → a ≠ b → (TTr a).2.1 ≠ (TTr b).2.1 := by decide +kernel
theorem tyTr_ok : ∀ k, k < 9 → parseFieldDescriptor (TTr k).2.2.1 = some (tyTr k) := by decide +kernel
def RTw : String := "DrillArchive$TextWriter"
def TTw : u_T := fun k => match k with
  | 0 => ("DrillArchive$TextWriter", "planner", "LDrillArchive$Planner;", true)
  | 1 => ("DrillArchive$TextWriter", "out", "LDrillArchive$Row;", true)
  | 2 => ("DrillArchive$TextWriter", "kept", "Z", false)
  | 3 => ("DrillArchive$TextWriter", "keptFrom", "I", false)
  | _ => ("DrillArchive$TextWriter", "keptTo", "I", false)
def tyTw : Nat → FieldType := fun k => match k with
  | 0 => .object "DrillArchive$Planner"
  | 1 => .object "DrillArchive$Row"
  | 2 => .boolean
  | 3 => .int
  | _ => .int
theorem nmTw : ∀ a, a < 5 → ∀ b, b < 5 → a ≠ b → (TTw a).2.1 ≠ (TTw b).2.1 := by decide +kernel
theorem tyTw_ok : ∀ k, k < 5 → parseFieldDescriptor (TTw k).2.2.1 = some (tyTw k) := by decide +kernel
def RTo : String := "DrillArchive$Tool"
def TTo : u_T := fun k => match k with
  | 0 => ("DrillArchive$Tool", "diameter", "I", true)
  | 1 => ("DrillArchive$Tool", "plated", "Z", true)
  | 2 => ("DrillArchive$Tool", "hits", "LDrillArchive$Row;", true)
  | 3 => ("DrillArchive$Tool", "ordered", "LDrillArchive$Row;", true)
  | 4 => ("DrillArchive$Tool", "length", "J", false)
  | _ => ("DrillArchive$Tool", "planned", "Z", false)
def tyTo : Nat → FieldType := fun k => match k with
  | 0 => .int
  | 1 => .boolean
  | 2 => .object "DrillArchive$Row"
  | 3 => .object "DrillArchive$Row"
  | 4 => .long
  | _ => .boolean
theorem nmTo : ∀ a, a < 6 → ∀ b, b < 6 → a ≠ b → (TTo a).2.1 ≠ (TTo b).2.1 := by decide +kernel
theorem tyTo_ok : ∀ k, k < 6 → parseFieldDescriptor (TTo k).2.2.1 = some (tyTo k) := by decide +kernel
def RMo : String := "DrillArchiveModel"
def TMo : u_T := fun k => match k with
  | 0 => ("DrillArchiveModel", "thrown", "I", false)
  | 1 => ("DrillArchiveModel", "tools", "[I", true)
  | 2 => ("DrillArchiveModel", "diameters", "[J", true)
  | 3 => ("DrillArchiveModel", "plated", "[Z", true)
  | 4 => ("DrillArchiveModel", "hits", "[I", true)
  | 5 => ("DrillArchiveModel", "toolOf", "[I", true)
  | 6 => ("DrillArchiveModel", "x", "[J", true)
  | 7 => ("DrillArchiveModel", "y", "[J", true)
  | 8 => ("DrillArchiveModel", "endX", "[J", true)
  | 9 => ("DrillArchiveModel", "endY", "[J", true)
  | 10 => ("DrillArchiveModel", "from", "[I", true)
  | 11 => ("DrillArchiveModel", "to", "[I", true)
  | 12 => ("DrillArchiveModel", "isSlot", "[Z", true)
  | 13 => ("DrillArchiveModel", "many", "I", false)
  | 14 => ("DrillArchiveModel", "row", "[I", true)
  | 15 => ("DrillArchiveModel", "order", "[I", true)
  | 16 => ("DrillArchiveModel", "least", "[J", true)
  | 17 => ("DrillArchiveModel", "laid", "I", false)
  | 18 => ("DrillArchiveModel", "page", "[I", true)
  | 19 => ("DrillArchiveModel", "length", "I", false)
  | 20 => ("DrillArchiveModel", "text", "[I", true)
  | 21 => ("DrillArchiveModel", "at", "I", false)
  | 22 => ("DrillArchiveModel", "began", "I", false)
  | 23 => ("DrillArchiveModel", "wrong", "I", false)
  | 24 => ("DrillArchiveModel", "means", "Z", false)
  | 25 => ("DrillArchiveModel", "files", "I", false)
  | 26 => ("DrillArchiveModel", "roles", "[I", true)
  | 27 => ("DrillArchiveModel", "sizes", "[I", true)
  | 28 => ("DrillArchiveModel", "bytes", "[I", true)
  | 29 => ("DrillArchiveModel", "fed", "I", false)
  | 30 => ("DrillArchiveModel", "feed", "[I", true)
  | 31 => ("DrillArchiveModel", "wanted", "I", false)
  | 32 => ("DrillArchiveModel", "written", "I", false)
  | 33 => ("DrillArchiveModel", "found", "I", false)
  | 34 => ("DrillArchiveModel", "stage", "I", false)
  | 35 => ("DrillArchiveModel", "hasLayers", "Z", false)
  | 36 => ("DrillArchiveModel", "readFrom", "I", false)
  | 37 => ("DrillArchiveModel", "readTo", "I", false)
  | _ => ("DrillArchiveModel", "current", "I", false)
def tyMo : Nat → FieldType := fun k => match k with
  | 0 => .int
  | 1 => .array (.int)
  | 2 => .array (.long)
  | 3 => .array (.boolean)
  | 4 => .array (.int)
  | 5 => .array (.int)
  | 6 => .array (.long)
  | 7 => .array (.long)
  | 8 => .array (.long)
  | 9 => .array (.long)
  | 10 => .array (.int)
  | 11 => .array (.int)
  | 12 => .array (.boolean)
  | 13 => .int
  | 14 => .array (.int)
  | 15 => .array (.int)
  | 16 => .array (.long)
  | 17 => .int
  | 18 => .array (.int)
  | 19 => .int
  | 20 => .array (.int)
  | 21 => .int
  | 22 => .int
  | 23 => .int
  | 24 => .boolean
  | 25 => .int
  | 26 => .array (.int)
  | 27 => .array (.int)
  | 28 => .array (.int)
  | 29 => .int
  | 30 => .array (.int)
  | 31 => .int
  | 32 => .int
  | 33 => .int
  | 34 => .int
  | 35 => .boolean
  | 36 => .int
  | 37 => .int
  | _ => .int
theorem nmMo : ∀ a, a < 39 → ∀ b, b < 39 → a ≠ b → (TMo a).2.1 ≠ (TMo b).2.1 := by decide +kernel
theorem tyMo_ok : ∀ k, k < 39 → parseFieldDescriptor (TMo k).2.2.1 = some (tyMo k) := by decide +kernel
def RJIa : String := "java/lang/IllegalArgumentException"
def TJIa : u_T := fun k => match k with
  | 0 => ("java/lang/Throwable", "cause", "Ljava/lang/Throwable;", false)
  | 1 => ("java/lang/Throwable", "stackTrace", "[Ljava/lang/StackTraceElement;", false)
  | 2 => ("java/lang/Throwable", "suppressedExceptions", "Ljava/util/List;", false)
  | 3 => ("java/lang/Throwable", "detailMessage", "Ljava/lang/String;", false)
  | 4 => ("java/lang/Throwable", "backtrace", "Ljava/lang/Object;", false)
  | _ => ("java/lang/Throwable", "depth", "I", false)
def tyJIa : Nat → FieldType := fun k => match k with
  | 0 => .object "java/lang/Throwable"
  | 1 => .array (.object "java/lang/StackTraceElement")
  | 2 => .object "java/util/List"
  | 3 => .object "java/lang/String"
  | 4 => .object "java/lang/Object"
  | _ => .int
theorem nmJIa : ∀ a, a < 6 → ∀ b, b < 6 → a ≠ b → (TJIa a).2.1 ≠ (TJIa b).2.1 := by decide +kernel
theorem tyJIa_ok : ∀ k, k < 6 → parseFieldDescriptor (TJIa k).2.2.1 = some (tyJIa k) := by decide +kernel
def RJIo : String := "java/lang/IndexOutOfBoundsException"
def TJIo : u_T := fun k => match k with
  | 0 => ("java/lang/Throwable", "cause", "Ljava/lang/Throwable;", false)
  | 1 => ("java/lang/Throwable", "stackTrace", "[Ljava/lang/StackTraceElement;", false)
  | 2 => ("java/lang/Throwable", "suppressedExceptions", "Ljava/util/List;", false)
  | 3 => ("java/lang/Throwable", "detailMessage", "Ljava/lang/String;", false)
  | 4 => ("java/lang/Throwable", "backtrace", "Ljava/lang/Object;", false)
  | _ => ("java/lang/Throwable", "depth", "I", false)
def tyJIo : Nat → FieldType := fun k => match k with
  | 0 => .object "java/lang/Throwable"
  | 1 => .array (.object "java/lang/StackTraceElement")
  | 2 => .object "java/util/List"
  | 3 => .object "java/lang/String"
  | 4 => .object "java/lang/Object"
  | _ => .int
theorem nmJIo : ∀ a, a < 6 → ∀ b, b < 6 → a ≠ b → (TJIo a).2.1 ≠ (TJIo b).2.1 := by decide +kernel
theorem tyJIo_ok : ∀ k, k < 6 → parseFieldDescriptor (TJIo k).2.2.1 = some (tyJIo k) := by decide +kernel
def gCL : List vw_C := [(RDa, TDa, 6), (RDr, TDr, 4), (RFs, TFs, 2), (RHi, THi, 7), (RPl, TPl, 7), (RRo, TRo, 3), (RSf, TSf, 3), (RTr, TTr, 9), (RTw, TTw, 5), (RTo, TTo, 6), (RMo, TMo, 39), (RJIa, TJIa, 6), (RJIo, TJIo, 6)]
/-- String constants: class, pool entry, text, which text -/
def gST : List (String × Nat × String × Nat) := [("DrillArchive$TextReader", 41, "M48\n", 0), ("DrillArchive$TextReader", 77, "\n", 1), ("DrillArchive$TextReader", 90, "P\n", 2), ("DrillArchive$TextReader", 92, "N\n", 3), ("DrillArchive$TextReader", 57, "%\n", 4), ("DrillArchive$TextReader", 120, "G85", 5), ("DrillArchive$TextReader", 65, "M30\n", 6), ("DrillArchive$TextWriter", 67, "M48\n", 0), ("DrillArchive$TextWriter", 85, "P\n", 2), ("DrillArchive$TextWriter", 87, "N\n", 3), ("DrillArchive$TextWriter", 89, "%\n", 4), ("DrillArchive$TextWriter", 127, "G85", 5), ("DrillArchive$TextWriter", 61, "M30\n", 6), ("DrillArchive", 57, "no diameter", 7), ("DrillArchive", 205, "no such tool", 8), ("DrillArchive", 79, "no such layer", 9), ("DrillArchive", 86, "no place, or from is above to", 10), ("DrillArchive", 97, "no place, or both places are one", 11), ("DrillArchive", 99, "no such character, or no such layers", 12), ("DrillArchive", 132, "no such hit, or nothing of it", 13), ("DrillArchive", 160, "no role", 14), ("DrillArchive", 210, "no such file", 15), ("DrillArchive", 172, "no byte", 16), ("DrillArchive", 177, "no such byte", 17)]
def gSN : Nat := 18
def gSL : List Nat := [4, 1, 2, 2, 2, 3, 4, 11, 12, 13, 29, 32, 36, 29, 7, 12, 7, 12]
def gSB : List (List Int32) := [[77, 52, 56, 10], [10], [80, 10], [78, 10], [37, 10], [71, 56, 53], [77, 51, 48, 10], [110, 111, 32, 100, 105, 97, 109, 101, 116, 101, 114], [110, 111, 32, 115, 117, 99, 104, 32, 116, 111, 111, 108], [110, 111, 32, 115, 117, 99, 104, 32, 108, 97, 121, 101, 114], [110, 111, 32, 112, 108, 97, 99, 101, 44, 32, 111, 114, 32, 102, 114, 111, 109, 32, 105, 115, 32, 97, 98, 111, 118, 101, 32, 116, 111], [110, 111, 32, 112, 108, 97, 99, 101, 44, 32, 111, 114, 32, 98, 111, 116, 104, 32, 112, 108, 97, 99, 101, 115, 32, 97, 114, 101, 32, 111, 110, 101], [110, 111, 32, 115, 117, 99, 104, 32, 99, 104, 97, 114, 97, 99, 116, 101, 114, 44, 32, 111, 114, 32, 110, 111, 32, 115, 117, 99, 104, 32, 108, 97, 121, 101, 114, 115], [110, 111, 32, 115, 117, 99, 104, 32, 104, 105, 116, 44, 32, 111, 114, 32, 110, 111, 116, 104, 105, 110, 103, 32, 111, 102, 32, 105, 116], [110, 111, 32, 114, 111, 108, 101], [110, 111, 32, 115, 117, 99, 104, 32, 102, 105, 108, 101], [110, 111, 32, 98, 121, 116, 101], [110, 111, 32, 115, 117, 99, 104, 32, 98, 121, 116, 101]]
abbrev xT : Type := List (Nat × ClassFile.Instr)
def tbDa_init : xT := [(0, .aload_n 0), (1, .invokespecial 1), (4, .aload_n 0), (5, .new 7), (8, .dup), (9, .invokespecial 9), (12, .putfield 10), (15, .aload_n 0), (16, .new 16), (19, .dup), (20, .aload_n 0), (21, .getfield 10), (24, .invokespecial 18), (27, .putfield 21), (30, .aload_n 0), (31, .new 25), (34, .dup), (35, .sipush 2000), (38, .invokespecial 27), (41, .putfield 30), (44, .aload_n 0), (45, .new 25), (48, .dup), (49, .sipush 2600), (52, .invokespecial 27), (55, .putfield 34), (58, .aload_n 0), (59, .new 37), (62, .dup), (63, .invokespecial 39), (66, .putfield 40), (69, .aload_n 0), (70, .new 44), (73, .dup), (74, .invokespecial 46), (77, .putfield 47), (80, .return_)]
def tbJOb_init : xT := [(0, .return_)]
def tbPl_init : xT := [(0, .aload_n 0), (1, .invokespecial 3), (4, .aload_n 0), (5, .new 9), (8, .dup), (9, .iconst (-1)), (10, .iconst 0), (11, .iconst 0), (12, .iconst 0), (13, .iconst 0), (14, .iconst 0), (15, .iconst 0), (16, .invokespecial 11), (19, .putfield 14), (22, .aload_n 0), (23, .bipush 60), (25, .anewarray 9), (28, .putfield 20), (31, .aload_n 0), (32, .bipush 60), (34, .newarray .boolean), (36, .putfield 24), (39, .aload_n 0), (40, .bipush 72), (42, .newarray .int), (44, .putfield 28), (47, .aload_n 0), (48, .sipush 2048), (51, .newarray .int), (53, .putfield 32), (56, .return_)]
def tbHi_init : xT := [(0, .aload_n 0), (1, .invokespecial 1), (4, .aload_n 0), (5, .iload_n 1), (6, .putfield 7), (9, .aload_n 0), (10, .iload_n 2), (11, .putfield 13), (14, .aload_n 0), (15, .iload_n 3), (16, .putfield 16), (19, .aload_n 0), (20, .iload 4), (22, .putfield 19), (25, .aload_n 0), (26, .iload 5), (28, .putfield 22), (31, .aload_n 0), (32, .iload 6), (34, .putfield 25), (37, .aload_n 0), (38, .iload 7), (40, .putfield 28), (43, .return_)]
def tbTw_init : xT := [(0, .aload_n 0), (1, .invokespecial 3), (4, .aload_n 0), (5, .new 9), (8, .dup), (9, .sipush 2600), (12, .invokespecial 11), (15, .putfield 14), (18, .aload_n 0), (19, .aload_n 1), (20, .putfield 20), (23, .return_)]
def tbRo_init : xT := [(0, .aload_n 0), (1, .invokespecial 3), (4, .aload_n 0), (5, .iload_n 1), (6, .putfield 9), (9, .aload_n 0), (10, .bipush 8), (12, .newarray .int), (14, .putfield 15), (17, .return_)]
def tbDr_init : xT := [(0, .aload_n 0), (1, .invokespecial 3), (4, .aload_n 0), (5, .bipush 10), (7, .anewarray 9), (10, .putfield 11), (13, .aload_n 0), (14, .bipush 60), (16, .anewarray 17), (19, .putfield 19), (22, .return_)]
def tbFs_init : xT := [(0, .aload_n 0), (1, .invokespecial 3), (4, .aload_n 0), (5, .bipush 8), (7, .anewarray 9), (10, .putfield 11), (13, .return_)]
def tbDa_unit : xT := [(0, .iload_n 1), (1, .bipush 10), (3, .if_icmp .eq 15), (6, .iload_n 1), (7, .bipush 32), (9, .if_icmp .lt 13), (12, .iload_n 1), (13, .bipush 126), (15, .if_icmp .gt 7), (18, .iconst 1), (19, .goto 4), (22, .iconst 0), (23, .istore_n 2), (24, .iload_n 2), (25, .ifCond .eq 18), (28, .aload_n 0), (29, .getfield 30), (32, .iload_n 1), (33, .invokevirtual 109), (36, .ifCond .eq 7), (39, .iconst 1), (40, .goto 4), (43, .iconst 0), (44, .ireturn)]
def tbRo_push : xT := [(0, .aload_n 0), (1, .getfield 19), (4, .aload_n 0), (5, .getfield 9), (8, .if_icmp .lt 5), (11, .iconst 0), (12, .ireturn), (13, .aload_n 0), (14, .getfield 19), (17, .aload_n 0), (18, .getfield 15), (21, .arraylength), (22, .if_icmp .lt 20), (25, .aload_n 0), (26, .aload_n 0), (27, .getfield 15), (30, .aload_n 0), (31, .getfield 19), (34, .iconst 2), (35, .imul), (36, .invokestatic 22), (39, .putfield 15), (42, .aload_n 0), (43, .getfield 15), (46, .aload_n 0), (47, .getfield 19), (50, .iload_n 1), (51, .iastore), (52, .aload_n 0), (53, .dup), (54, .getfield 19), (57, .iconst 1), (58, .iadd), (59, .putfield 19), (62, .iconst 1), (63, .ireturn)]
def tbJAr_copyOf : xT := [(0, .iload_n 1), (1, .aload_n 0), (2, .arraylength), (3, .if_icmp .ne 11), (6, .aload_n 0), (7, .invokevirtual 316), (10, .checkcast 317), (13, .areturn), (14, .iload_n 1), (15, .newarray .int), (17, .astore_n 2), (18, .aload_n 0), (19, .iconst 0), (20, .aload_n 2), (21, .iconst 0), (22, .aload_n 0), (23, .arraylength), (24, .iload_n 1), (25, .invokestatic 304), (28, .invokestatic 150), (31, .aload_n 2), (32, .areturn)]
def tbJMa_min : xT := [(0, .iload_n 0), (1, .iload_n 1), (2, .if_icmp .gt 7), (5, .iload_n 0), (6, .goto 4), (9, .iload_n 1), (10, .ireturn)]
def tbDa_read : xT := [(0, .new 37), (3, .dup), (4, .invokespecial 39), (7, .astore_n 1), (8, .new 112), (11, .dup), (12, .aload_n 0), (13, .getfield 30), (16, .aload_n 1), (17, .invokespecial 114), (20, .invokevirtual 117), (23, .istore_n 2), (24, .iload_n 2), (25, .iconst (-1)), (26, .if_icmp .eq 7), (29, .iconst (-1)), (30, .iload_n 2), (31, .isub), (32, .ireturn), (33, .aload_n 0), (34, .aload_n 1), (35, .putfield 40), (38, .aload_n 0), (39, .getfield 30), (42, .invokevirtual 121), (45, .aload_n 0), (46, .getfield 21), (49, .invokevirtual 62), (52, .aload_n 0), (53, .getfield 40), (56, .getfield 124), (59, .ireturn)]
def tbTr_init : xT := [(0, .aload_n 0), (1, .invokespecial 3), (4, .aload_n 0), (5, .iconst (-1)), (6, .putfield 9), (9, .aload_n 0), (10, .aload_n 1), (11, .putfield 15), (14, .aload_n 0), (15, .aload_n 2), (16, .putfield 19), (19, .return_)]
def tbTr_firstWrong : xT := [(0, .aload_n 0), (1, .invokevirtual 23), (4, .ifCond .eq 35), (7, .aload_n 0), (8, .invokevirtual 27), (11, .ifCond .eq 28), (14, .aload_n 0), (15, .invokevirtual 30), (18, .ifCond .eq 21), (21, .aload_n 0), (22, .getfield 33), (25, .aload_n 0), (26, .getfield 15), (29, .getfield 36), (32, .if_icmp .ne 7), (35, .iconst 1), (36, .goto 4), (39, .iconst 0), (40, .istore_n 1), (41, .iload_n 1), (42, .ifCond .eq 7), (45, .iconst (-1)), (46, .goto 7), (49, .aload_n 0), (50, .getfield 33), (53, .ireturn)]
def tbTr_readLayers : xT := [(0, .aload_n 0), (1, .ldc 41), (3, .invokevirtual 43), (6, .ifCond .eq 14), (9, .aload_n 0), (10, .invokevirtual 47), (13, .ifCond .eq 7), (16, .iconst 1), (17, .goto 4), (20, .iconst 0), (21, .istore_n 1), (22, .iconst 0), (23, .istore_n 2), (24, .iload_n 2), (25, .sipush 2000), (28, .if_icmp .ge 34), (31, .iload_n 1), (32, .ifCond .eq 30), (35, .aload_n 0), (36, .getfield 15), (39, .aload_n 0), (40, .getfield 33), (43, .invokevirtual 50), (46, .bipush 76), (48, .if_icmp .ne 14), (51, .aload_n 0), (52, .invokevirtual 47), (55, .istore_n 1), (56, .iinc 2 1), (59, .goto (-35)), (62, .iload_n 1), (63, .ireturn)]
def tbTr_passes : xT := [(0, .iconst 0), (1, .istore_n 2), (2, .iload_n 2), (3, .aload_n 1), (4, .invokevirtual 138), (7, .if_icmp .ge 40), (10, .aload_n 0), (11, .getfield 15), (14, .aload_n 0), (15, .getfield 33), (18, .invokevirtual 50), (21, .aload_n 1), (22, .iload_n 2), (23, .invokevirtual 144), (26, .if_icmp .eq 5), (29, .iconst 0), (30, .ireturn), (31, .aload_n 0), (32, .dup), (33, .getfield 33), (36, .iconst 1), (37, .iadd), (38, .putfield 33), (41, .iinc 2 1), (44, .goto (-42)), (47, .iconst 1), (48, .ireturn)]
def tbJSt_length : xT := [(0, .aload_n 0), (1, .getfield 9), (4, .arraylength), (5, .aload_n 0), (6, .invokevirtual 335), (9, .ishr), (10, .ireturn)]
def tbJSt_coder : xT := [(0, .getstatic 38), (3, .ifCond .eq 10), (6, .aload_n 0), (7, .getfield 15), (10, .goto 4), (13, .iconst 1), (14, .ireturn)]
def tbRo_get : xT := [(0, .iload_n 1), (1, .ifCond .lt 20), (4, .iload_n 1), (5, .aload_n 0), (6, .getfield 19), (9, .if_icmp .ge 12), (12, .aload_n 0), (13, .getfield 15), (16, .iload_n 1), (17, .iaload), (18, .goto 4), (21, .iconst (-1)), (22, .ireturn)]
def tbJSt_charAt : xT := [(0, .aload_n 0), (1, .invokevirtual 492), (4, .ifCond .eq 12), (7, .aload_n 0), (8, .getfield 9), (11, .iload_n 1), (12, .invokestatic 495), (15, .ireturn), (16, .aload_n 0), (17, .getfield 9), (20, .iload_n 1), (21, .invokestatic 498), (24, .ireturn)]
def tbJSt_isLatin1 : xT := [(0, .getstatic 38), (3, .ifCond .eq 14), (6, .aload_n 0), (7, .getfield 15), (10, .ifCond .ne 7), (13, .iconst 1), (14, .goto 4), (17, .iconst 0), (18, .ireturn)]
def tbJSl_charAt : xT := [(0, .iload_n 1), (1, .aload_n 0), (2, .arraylength), (3, .invokestatic 9), (6, .aload_n 0), (7, .iload_n 1), (8, .baload), (9, .sipush 255), (12, .iand), (13, .i2c), (14, .ireturn)]
def tbJSt_checkIndex : xT := [(0, .iload_n 0), (1, .iload_n 1), (2, .getstatic 1053), (5, .invokestatic 1059), (8, .pop), (9, .return_)]
def tbJPr_checkIndex : xT := [(0, .iload_n 0), (1, .ifCond .lt 8), (4, .iload_n 0), (5, .iload_n 1), (6, .if_icmp .lt 10), (9, .aload_n 2), (10, .iload_n 0), (11, .iload_n 1), (12, .invokestatic 95), (15, .athrow), (16, .iload_n 0), (17, .ireturn)]
def tbJSu_charAt : xT := [(0, .iload_n 1), (1, .aload_n 0), (2, .invokestatic 67), (5, .aload_n 0), (6, .iload_n 1), (7, .invokestatic 71), (10, .ireturn)]
def tbJSu_checkIndex : xT := [(0, .iload_n 0), (1, .aload_n 1), (2, .invokestatic 48), (5, .invokestatic 414), (8, .return_)]
def tbJSu_length : xT := [(0, .aload_n 0), (1, .arraylength), (2, .iconst 1), (3, .ishr), (4, .ireturn)]
def tbJSu_getChar : xT := [(0, .getstatic 44), (3, .ifCond .ne 25), (6, .iload_n 1), (7, .ifCond .lt 11), (10, .iload_n 1), (11, .aload_n 0), (12, .invokestatic 48), (15, .if_icmp .lt 13), (18, .new 52), (21, .dup), (22, .ldc 54), (24, .invokespecial 56), (27, .athrow), (28, .iload_n 1), (29, .iconst 1), (30, .ishl), (31, .istore_n 1), (32, .aload_n 0), (33, .iload_n 1), (34, .iinc 1 1), (37, .baload), (38, .sipush 255), (41, .iand), (42, .getstatic 59), (45, .ishl), (46, .aload_n 0), (47, .iload_n 1), (48, .baload), (49, .sipush 255), (52, .iand), (53, .getstatic 63), (56, .ishl), (57, .ior), (58, .i2c), (59, .ireturn)]
def tbTr_readLayerLine : xT := [(0, .aload_n 0), (1, .getfield 33), (4, .istore_n 1), (5, .aload_n 0), (6, .bipush 76), (8, .iconst 0), (9, .invokevirtual 67), (12, .ifCond .ne 5), (15, .iconst 0), (16, .ireturn), (17, .aload_n 0), (18, .aload_n 0), (19, .getfield 71), (22, .putfield 74), (25, .aload_n 0), (26, .bipush 44), (28, .iconst 0), (29, .invokevirtual 67), (32, .ifCond .eq 12), (35, .aload_n 0), (36, .ldc 77), (38, .invokevirtual 43), (41, .ifCond .ne 5), (44, .iconst 0), (45, .ireturn), (46, .aload_n 0), (47, .aload_n 0), (48, .getfield 71), (51, .putfield 79), (54, .aload_n 0), (55, .aload_n 0), (56, .getfield 74), (59, .invokestatic 82), (62, .ifCond .eq 28), (65, .aload_n 0), (66, .getfield 79), (69, .invokestatic 82), (72, .ifCond .eq 18), (75, .aload_n 0), (76, .getfield 74), (79, .aload_n 0), (80, .getfield 79), (83, .if_icmp .gt 7), (86, .iconst 1), (87, .goto 4), (90, .iconst 0), (91, .iload_n 1), (92, .invokevirtual 86), (95, .ireturn)]
def tbTr_readPart : xT := [(0, .aload_n 0), (1, .getfield 15), (4, .aload_n 0), (5, .getfield 33), (8, .invokevirtual 50), (11, .iload_n 1), (12, .if_icmp .eq 5), (15, .iconst 0), (16, .ireturn), (17, .aload_n 0), (18, .dup), (19, .getfield 33), (22, .iconst 1), (23, .iadd), (24, .putfield 33), (27, .iload_n 2), (28, .ifCond .eq 23), (31, .aload_n 0), (32, .getfield 15), (35, .aload_n 0), (36, .getfield 33), (39, .invokevirtual 50), (42, .bipush 45), (44, .if_icmp .ne 7), (47, .iconst 1), (48, .goto 4), (51, .iconst 0), (52, .istore_n 3), (53, .iload_n 3), (54, .ifCond .eq 13), (57, .aload_n 0), (58, .dup), (59, .getfield 33), (62, .iconst 1), (63, .iadd), (64, .putfield 33), (67, .iconst 0), (68, .istore 4), (70, .iconst 0), (71, .istore 5), (73, .iload 5), (75, .bipush 7), (77, .if_icmp .ge 58), (80, .aload_n 0), (81, .getfield 15), (84, .aload_n 0), (85, .getfield 33), (88, .invokevirtual 50), (91, .invokestatic 135), (94, .ifCond .eq 41), (97, .iload 4), (99, .bipush 10), (101, .imul), (102, .aload_n 0), (103, .getfield 15), (106, .aload_n 0), (107, .getfield 33), (110, .invokevirtual 50), (113, .iadd), (114, .bipush 48), (116, .isub), (117, .istore 4), (119, .aload_n 0), (120, .dup), (121, .getfield 33), (124, .iconst 1), (125, .iadd), (126, .putfield 33), (129, .iinc 5 1), (132, .goto (-59)), (135, .aload_n 0), (136, .iload_n 3), (137, .ifCond .eq 9), (140, .iload 4), (142, .ineg), (143, .goto 5), (146, .iload 4), (148, .putfield 71), (151, .iload 5), (153, .ifCond .le 7), (156, .iconst 1), (157, .goto 4), (160, .iconst 0), (161, .ireturn)]
def tbTr_isDigit : xT := [(0, .iload_n 0), (1, .bipush 48), (3, .if_icmp .lt 13), (6, .iload_n 0), (7, .bipush 57), (9, .if_icmp .gt 7), (12, .iconst 1), (13, .goto 4), (16, .iconst 0), (17, .ireturn)]
def tbDa_isLayer : xT := [(0, .iload_n 0), (1, .ifCond .lt 13), (4, .iload_n 0), (5, .bipush 7), (7, .if_icmp .gt 7), (10, .iconst 1), (11, .goto 4), (14, .iconst 0), (15, .ireturn)]
def tbTr_can : xT := [(0, .iload_n 1), (1, .ifCond .ne 8), (4, .aload_n 0), (5, .iload_n 2), (6, .putfield 33), (9, .iload_n 1), (10, .ireturn)]
def tbTr_readTools : xT := [(0, .iconst 1), (1, .istore_n 1), (2, .iconst 0), (3, .istore_n 2), (4, .iload_n 2), (5, .sipush 2000), (8, .if_icmp .ge 34), (11, .iload_n 1), (12, .ifCond .eq 30), (15, .aload_n 0), (16, .getfield 15), (19, .aload_n 0), (20, .getfield 33), (23, .invokevirtual 50), (26, .bipush 84), (28, .if_icmp .ne 14), (31, .aload_n 0), (32, .invokevirtual 54), (35, .istore_n 1), (36, .iinc 2 1), (39, .goto (-35)), (42, .iload_n 1), (43, .ifCond .eq 16), (46, .aload_n 0), (47, .ldc 57), (49, .invokevirtual 43), (52, .ifCond .eq 7), (55, .iconst 1), (56, .goto 4), (59, .iconst 0), (60, .ireturn)]
def tbTr_readToolLine : xT := [(0, .aload_n 0), (1, .getfield 33), (4, .istore_n 1), (5, .aload_n 0), (6, .bipush 84), (8, .iconst 0), (9, .invokevirtual 67), (12, .ifCond .ne 5), (15, .iconst 0), (16, .ireturn), (17, .aload_n 0), (18, .getfield 71), (21, .istore_n 2), (22, .aload_n 0), (23, .bipush 67), (25, .iconst 0), (26, .invokevirtual 67), (29, .ifCond .ne 5), (32, .iconst 0), (33, .ireturn), (34, .aload_n 0), (35, .getfield 15), (38, .aload_n 0), (39, .getfield 33), (42, .invokevirtual 50), (45, .bipush 80), (47, .if_icmp .ne 7), (50, .iconst 1), (51, .goto 4), (54, .iconst 0), (55, .istore_n 3), (56, .aload_n 0), (57, .iload_n 3), (58, .ifCond .eq 8), (61, .ldc 90), (63, .goto 5), (66, .ldc 92), (68, .invokevirtual 43), (71, .ifCond .ne 5), (74, .iconst 0), (75, .ireturn), (76, .aload_n 0), (77, .iload_n 2), (78, .aload_n 0), (79, .getfield 19), (82, .getfield 94), (85, .if_icmp .ne 34), (88, .aload_n 0), (89, .getfield 71), (92, .i2l), (93, .invokestatic 99), (96, .ifCond .eq 23), (99, .aload_n 0), (100, .getfield 19), (103, .aload_n 0), (104, .getfield 71), (107, .iload_n 3), (108, .invokevirtual 103), (111, .iconst (-1)), (112, .if_icmp .eq 7), (115, .iconst 1), (116, .goto 4), (119, .iconst 0), (120, .iload_n 1), (121, .invokevirtual 86), (124, .ireturn)]
def tbDa_isDiameter : xT := [(0, .lload_n 0), (1, .lconst 1), (2, .lcmp), (3, .ifCond .lt 15), (6, .lload_n 0), (7, .ldc2_w 212), (10, .lcmp), (11, .ifCond .gt 7), (14, .iconst 1), (15, .goto 4), (18, .iconst 0), (19, .ireturn)]
def tbDr_addTool : xT := [(0, .aload_n 0), (1, .getfield 23), (4, .bipush 10), (6, .if_icmp .lt 5), (9, .iconst (-1)), (10, .ireturn), (11, .aload_n 0), (12, .getfield 11), (15, .aload_n 0), (16, .getfield 23), (19, .new 9), (22, .dup), (23, .iload_n 1), (24, .iload_n 2), (25, .invokespecial 27), (28, .aastore), (29, .aload_n 0), (30, .dup), (31, .getfield 23), (34, .iconst 1), (35, .iadd), (36, .putfield 23), (39, .aload_n 0), (40, .getfield 23), (43, .iconst 1), (44, .isub), (45, .ireturn)]
def tbTo_init : xT := [(0, .aload_n 0), (1, .invokespecial 3), (4, .aload_n 0), (5, .new 9), (8, .dup), (9, .bipush 60), (11, .invokespecial 11), (14, .putfield 14), (17, .aload_n 0), (18, .new 9), (21, .dup), (22, .bipush 60), (24, .invokespecial 11), (27, .putfield 20), (30, .aload_n 0), (31, .iload_n 1), (32, .putfield 23), (35, .aload_n 0), (36, .iload_n 2), (37, .putfield 27), (40, .return_)]
def tbTr_readHits : xT := [(0, .iconst 1), (1, .istore_n 1), (2, .iconst 0), (3, .istore_n 2), (4, .iload_n 2), (5, .sipush 2000), (8, .if_icmp .ge 66), (11, .iload_n 1), (12, .ifCond .eq 62), (15, .aload_n 0), (16, .getfield 15), (19, .aload_n 0), (20, .getfield 33), (23, .invokevirtual 50), (26, .bipush 77), (28, .if_icmp .eq 46), (31, .aload_n 0), (32, .getfield 15), (35, .aload_n 0), (36, .getfield 33), (39, .invokevirtual 50), (42, .bipush 88), (44, .if_icmp .ne 19), (47, .aload_n 0), (48, .getfield 9), (51, .iconst (-1)), (52, .if_icmp .eq 11), (55, .aload_n 0), (56, .invokevirtual 59), (59, .istore_n 1), (60, .goto 8), (63, .aload_n 0), (64, .invokevirtual 62), (67, .istore_n 1), (68, .iinc 2 1), (71, .goto (-67)), (74, .iload_n 1), (75, .ifCond .eq 16), (78, .aload_n 0), (79, .ldc 65), (81, .invokevirtual 43), (84, .ifCond .eq 7), (87, .iconst 1), (88, .goto 4), (91, .iconst 0), (92, .ireturn)]
def tbTr_readHitLine : xT := [(0, .aload_n 0), (1, .getfield 33), (4, .istore_n 1), (5, .aload_n 0), (6, .invokevirtual 111), (9, .ifCond .ne 5), (12, .iconst 0), (13, .ireturn), (14, .aload_n 0), (15, .getfield 114), (18, .istore_n 2), (19, .aload_n 0), (20, .getfield 117), (23, .istore_n 3), (24, .aload_n 0), (25, .getfield 15), (28, .aload_n 0), (29, .getfield 33), (32, .invokevirtual 50), (35, .bipush 71), (37, .if_icmp .ne 7), (40, .iconst 1), (41, .goto 4), (44, .iconst 0), (45, .istore 4), (47, .iload 4), (49, .ifCond .eq 21), (52, .aload_n 0), (53, .ldc 120), (55, .invokevirtual 43), (58, .ifCond .eq 10), (61, .aload_n 0), (62, .invokevirtual 111), (65, .ifCond .ne 5), (68, .iconst 0), (69, .ireturn), (70, .aload_n 0), (71, .ldc 77), (73, .invokevirtual 43), (76, .ifCond .ne 5), (79, .iconst 0), (80, .ireturn), (81, .iload_n 2), (82, .i2l), (83, .iload_n 3), (84, .i2l), (85, .invokestatic 122), (88, .ifCond .eq 23), (91, .aload_n 0), (92, .getfield 114), (95, .i2l), (96, .aload_n 0), (97, .getfield 117), (100, .i2l), (101, .invokestatic 122), (104, .ifCond .eq 7), (107, .iconst 1), (108, .goto 4), (111, .iconst 0), (112, .istore 5), (114, .iload_n 2), (115, .aload_n 0), (116, .getfield 114), (119, .if_icmp .ne 11), (122, .iload_n 3), (123, .aload_n 0), (124, .getfield 117), (127, .if_icmp .eq 7), (130, .iconst 1), (131, .goto 4), (134, .iconst 0), (135, .istore 6), (137, .iload 4), (139, .ifCond .eq 7), (142, .iconst 0), (143, .goto 7), (146, .aload_n 0), (147, .getfield 74), (150, .istore 7), (152, .iload 4), (154, .ifCond .eq 8), (157, .bipush 7), (159, .goto 7), (162, .aload_n 0), (163, .getfield 79), (166, .istore 8), (168, .aload_n 0), (169, .iload 5), (171, .ifCond .eq 50), (174, .iload 6), (176, .iload 4), (178, .if_icmp .ne 43), (181, .aload_n 0), (182, .getfield 19), (185, .new 126), (188, .dup), (189, .aload_n 0), (190, .getfield 9), (193, .iload_n 2), (194, .iload_n 3), (195, .aload_n 0), (196, .getfield 114), (199, .aload_n 0), (200, .getfield 117), (203, .iload 7), (205, .iload 8), (207, .invokespecial 128), (210, .invokevirtual 131), (213, .iconst (-1)), (214, .if_icmp .eq 7), (217, .iconst 1), (218, .goto 4), (221, .iconst 0), (222, .iload_n 1), (223, .invokevirtual 86), (226, .ireturn)]
def tbTr_readPlace : xT := [(0, .aload_n 0), (1, .bipush 88), (3, .iconst 1), (4, .invokevirtual 67), (7, .ifCond .ne 5), (10, .iconst 0), (11, .ireturn), (12, .aload_n 0), (13, .aload_n 0), (14, .getfield 71), (17, .putfield 114), (20, .aload_n 0), (21, .bipush 89), (23, .iconst 1), (24, .invokevirtual 67), (27, .ifCond .ne 5), (30, .iconst 0), (31, .ireturn), (32, .aload_n 0), (33, .aload_n 0), (34, .getfield 71), (37, .putfield 117), (40, .iconst 1), (41, .ireturn)]
def tbDa_isPlace : xT := [(0, .lload_n 0), (1, .ldc2_w 214), (4, .lcmp), (5, .ifCond .lt 31), (8, .lload_n 0), (9, .ldc2_w 216), (12, .lcmp), (13, .ifCond .gt 23), (16, .lload_n 2), (17, .ldc2_w 214), (20, .lcmp), (21, .ifCond .lt 15), (24, .lload_n 2), (25, .ldc2_w 216), (28, .lcmp), (29, .ifCond .gt 7), (32, .iconst 1), (33, .goto 4), (36, .iconst 0), (37, .ireturn)]
def tbDr_addHit : xT := [(0, .aload_n 0), (1, .aload_n 1), (2, .getfield 30), (5, .invokevirtual 33), (8, .astore_n 2), (9, .aload_n 2), (10, .ifnull 12), (13, .aload_n 0), (14, .getfield 37), (17, .bipush 60), (19, .if_icmp .lt 5), (22, .iconst (-1)), (23, .ireturn), (24, .aload_n 0), (25, .getfield 19), (28, .aload_n 0), (29, .getfield 37), (32, .aload_n 1), (33, .aastore), (34, .aload_n 2), (35, .aload_n 0), (36, .getfield 37), (39, .invokevirtual 40), (42, .aload_n 0), (43, .dup), (44, .getfield 37), (47, .iconst 1), (48, .iadd), (49, .putfield 37), (52, .aload_n 0), (53, .getfield 37), (56, .iconst 1), (57, .isub), (58, .ireturn)]
def tbDr_toolAt : xT := [(0, .iload_n 1), (1, .ifCond .lt 20), (4, .iload_n 1), (5, .aload_n 0), (6, .getfield 23), (9, .if_icmp .ge 12), (12, .aload_n 0), (13, .getfield 11), (16, .iload_n 1), (17, .aaload), (18, .goto 4), (21, .aconst_null), (22, .areturn)]
def tbTo_addHit : xT := [(0, .aload_n 0), (1, .getfield 14), (4, .iload_n 1), (5, .invokevirtual 31), (8, .pop), (9, .aload_n 0), (10, .iconst 0), (11, .putfield 35), (14, .return_)]
def tbTr_readChoiceLine : xT := [(0, .aload_n 0), (1, .getfield 33), (4, .istore_n 1), (5, .aload_n 0), (6, .bipush 84), (8, .iconst 0), (9, .invokevirtual 67), (12, .ifCond .eq 12), (15, .aload_n 0), (16, .ldc 77), (18, .invokevirtual 43), (21, .ifCond .ne 5), (24, .iconst 0), (25, .ireturn), (26, .aload_n 0), (27, .aload_n 0), (28, .getfield 71), (31, .putfield 9), (34, .aload_n 0), (35, .aload_n 0), (36, .getfield 19), (39, .aload_n 0), (40, .getfield 9), (43, .invokevirtual 107), (46, .ifnull 7), (49, .iconst 1), (50, .goto 4), (53, .iconst 0), (54, .iload_n 1), (55, .invokevirtual 86), (58, .ireturn)]
def tbRo_empty : xT := [(0, .aload_n 0), (1, .iconst 0), (2, .putfield 19), (5, .return_)]
def tbTw_forget : xT := [(0, .aload_n 0), (1, .iconst 0), (2, .putfield 24), (5, .return_)]
def tbDa_feed : xT := [(0, .iload_n 1), (1, .invokestatic 169), (4, .ifCond .eq 18), (7, .aload_n 0), (8, .getfield 34), (11, .iload_n 1), (12, .invokevirtual 109), (15, .ifCond .eq 7), (18, .iconst 1), (19, .goto 4), (22, .iconst 0), (23, .ireturn)]
def tbDa_isByte : xT := [(0, .iload_n 0), (1, .ifCond .lt 14), (4, .iload_n 0), (5, .sipush 256), (8, .if_icmp .ge 7), (11, .iconst 1), (12, .goto 4), (15, .iconst 0), (16, .ireturn)]
def tbDa_open : xT := [(0, .new 44), (3, .dup), (4, .invokespecial 46), (7, .astore_n 1), (8, .aload_n 1), (9, .aload_n 0), (10, .getfield 34), (13, .invokevirtual 182), (16, .istore_n 2), (17, .aload_n 0), (18, .getfield 34), (21, .invokevirtual 121), (24, .iload_n 2), (25, .ifCond .ne 5), (28, .iconst (-1)), (29, .ireturn), (30, .aload_n 0), (31, .aload_n 1), (32, .putfield 47), (35, .aload_n 0), (36, .getfield 47), (39, .getfield 186), (42, .ireturn)]
def tbFs_take : xT := [(0, .aload_n 1), (1, .iconst 0), (2, .invokevirtual 46), (5, .istore_n 2), (6, .iload_n 2), (7, .ifCond .lt 9), (10, .iload_n 2), (11, .bipush 8), (13, .if_icmp .le 5), (16, .iconst 0), (17, .ireturn), (18, .iconst 1), (19, .istore_n 3), (20, .iconst 0), (21, .istore 4), (23, .iload 4), (25, .iload_n 2), (26, .if_icmp .ge 23), (29, .aload_n 0), (30, .aload_n 1), (31, .iload_n 3), (32, .invokevirtual 51), (35, .istore_n 3), (36, .iload_n 3), (37, .iconst (-1)), (38, .if_icmp .ne 5), (41, .iconst 0), (42, .ireturn), (43, .iinc 4 1), (46, .goto (-23)), (49, .iload_n 3), (50, .aload_n 1), (51, .getfield 55), (54, .if_icmp .ne 7), (57, .iconst 1), (58, .goto 4), (61, .iconst 0), (62, .ireturn)]
def tbFs_takeFile : xT := [(0, .iload_n 2), (1, .iconst 3), (2, .iadd), (3, .istore_n 3), (4, .iload_n 3), (5, .aload_n 1), (6, .getfield 55), (9, .if_icmp .le 5), (12, .iconst (-1)), (13, .ireturn), (14, .aload_n 1), (15, .iload_n 2), (16, .iconst 1), (17, .iadd), (18, .invokestatic 56), (21, .istore 4), (23, .iload_n 3), (24, .iload 4), (26, .iadd), (27, .istore 5), (29, .iload 4), (31, .sipush 300), (34, .if_icmp .gt 14), (37, .iload 5), (39, .iconst 2), (40, .iadd), (41, .aload_n 1), (42, .getfield 55), (45, .if_icmp .le 5), (48, .iconst (-1)), (49, .ireturn), (50, .aload_n 0), (51, .aload_n 0), (52, .aload_n 1), (53, .iload_n 2), (54, .invokevirtual 46), (57, .invokevirtual 59), (60, .invokevirtual 32), (63, .astore 6), (65, .aload 6), (67, .ifnonnull 5), (70, .iconst (-1)), (71, .ireturn), (72, .iload_n 3), (73, .istore 7), (75, .iload 7), (77, .iload 5), (79, .if_icmp .ge 21), (82, .aload 6), (84, .aload_n 1), (85, .iload 7), (87, .invokevirtual 46), (90, .invokevirtual 62), (93, .pop), (94, .iinc 7 1), (97, .goto (-22)), (100, .aload 6), (102, .getfield 65), (105, .aload_n 1), (106, .iload 5), (108, .invokestatic 56), (111, .if_icmp .ne 10), (114, .iload 5), (116, .iconst 2), (117, .iadd), (118, .goto 4), (121, .iconst (-1)), (122, .ireturn)]
def tbFs_pair : xT := [(0, .aload_n 0), (1, .iload_n 1), (2, .invokevirtual 46), (5, .sipush 256), (8, .aload_n 0), (9, .iload_n 1), (10, .iconst 1), (11, .iadd), (12, .invokevirtual 46), (15, .imul), (16, .iadd), (17, .ireturn)]
def tbFs_add : xT := [(0, .iload_n 1), (1, .invokestatic 17), (4, .ifCond .eq 20), (7, .aload_n 0), (8, .iload_n 1), (9, .invokevirtual 21), (12, .ifnonnull 12), (15, .aload_n 0), (16, .getfield 25), (19, .bipush 8), (21, .if_icmp .lt 5), (24, .iconst (-1)), (25, .ireturn), (26, .aload_n 0), (27, .getfield 11), (30, .aload_n 0), (31, .getfield 25), (34, .new 9), (37, .dup), (38, .iload_n 1), (39, .invokespecial 29), (42, .aastore), (43, .aload_n 0), (44, .dup), (45, .getfield 25), (48, .iconst 1), (49, .iadd), (50, .putfield 25), (53, .aload_n 0), (54, .getfield 25), (57, .iconst 1), (58, .isub), (59, .ireturn)]
def tbDa_isRole : xT := [(0, .iload_n 0), (1, .ifCond .lt 13), (4, .iload_n 0), (5, .bipush 7), (7, .if_icmp .gt 7), (10, .iconst 1), (11, .goto 4), (14, .iconst 0), (15, .ireturn)]
def tbFs_withRole : xT := [(0, .iconst 0), (1, .istore_n 2), (2, .iload_n 2), (3, .aload_n 0), (4, .getfield 25), (7, .if_icmp .ge 29), (10, .aload_n 0), (11, .iload_n 2), (12, .invokevirtual 32), (15, .astore_n 3), (16, .aload_n 3), (17, .ifnull 13), (20, .aload_n 3), (21, .getfield 35), (24, .iload_n 1), (25, .if_icmp .ne 5), (28, .aload_n 3), (29, .areturn), (30, .iinc 2 1), (33, .goto (-31)), (36, .aconst_null), (37, .areturn)]
def tbFs_fileAt : xT := [(0, .iload_n 1), (1, .ifCond .lt 20), (4, .iload_n 1), (5, .aload_n 0), (6, .getfield 25), (9, .if_icmp .ge 12), (12, .aload_n 0), (13, .getfield 11), (16, .iload_n 1), (17, .aaload), (18, .goto 4), (21, .aconst_null), (22, .areturn)]
def tbSf_init : xT := [(0, .aload_n 0), (1, .invokespecial 3), (4, .aload_n 0), (5, .new 9), (8, .dup), (9, .sipush 300), (12, .invokespecial 11), (15, .putfield 14), (18, .aload_n 0), (19, .iload_n 1), (20, .putfield 20), (23, .return_)]
def tbSf_push : xT := [(0, .aload_n 0), (1, .getfield 14), (4, .iload_n 1), (5, .invokevirtual 24), (8, .ifCond .ne 5), (11, .iconst 0), (12, .ireturn), (13, .aload_n 0), (14, .aload_n 0), (15, .getfield 28), (18, .iload_n 1), (19, .aload_n 0), (20, .getfield 14), (23, .getfield 31), (26, .imul), (27, .iadd), (28, .ldc 34), (30, .irem), (31, .putfield 28), (34, .iconst 1), (35, .ireturn)]
def tbDa_agrees : xT := [(0, .aload_n 0), (1, .iconst 0), (2, .invokevirtual 187), (5, .iconst (-1)), (6, .if_icmp .ne 7), (9, .iconst 1), (10, .goto 4), (13, .iconst 0), (14, .ireturn)]
def tbDa_told : xT := [(0, .iload_n 1), (1, .ifCond .ge 5), (4, .iconst (-1)), (5, .ireturn), (6, .iload_n 1), (7, .istore_n 2), (8, .iconst 0), (9, .istore_n 3), (10, .iload_n 3), (11, .bipush 7), (13, .if_icmp .gt 57), (16, .aload_n 0), (17, .getfield 47), (20, .iload_n 3), (21, .invokevirtual 190), (24, .astore 4), (26, .aload 4), (28, .ifnull 36), (31, .aload 4), (33, .getfield 193), (36, .aload_n 0), (37, .getfield 21), (40, .aload_n 0), (41, .getfield 40), (44, .iconst 0), (45, .iload_n 3), (46, .invokevirtual 101), (49, .invokevirtual 196), (52, .ifCond .ne 12), (55, .iload_n 2), (56, .ifCond .ne 5), (59, .iload_n 3), (60, .ireturn), (61, .iinc 2 (-1)), (64, .iinc 3 1), (67, .goto (-57)), (70, .iconst (-1)), (71, .ireturn)]
def tbTw_textOf : xT := [(0, .aload_n 0), (1, .getfield 24), (4, .ifCond .eq 24), (7, .aload_n 0), (8, .getfield 28), (11, .iload_n 2), (12, .if_icmp .ne 16), (15, .aload_n 0), (16, .getfield 32), (19, .iload_n 3), (20, .if_icmp .ne 8), (23, .aload_n 0), (24, .getfield 14), (27, .areturn), (28, .aload_n 0), (29, .iconst 1), (30, .putfield 24), (33, .aload_n 0), (34, .iload_n 2), (35, .putfield 28), (38, .aload_n 0), (39, .iload_n 3), (40, .putfield 32), (43, .aload_n 0), (44, .getfield 14), (47, .invokevirtual 35), (50, .aload_n 0), (51, .aload_n 1), (52, .invokevirtual 38), (55, .iconst 0), (56, .istore 4), (58, .iload 4), (60, .aload_n 1), (61, .getfield 42), (64, .if_icmp .ge 41), (67, .aload_n 1), (68, .iload 4), (70, .invokevirtual 47), (73, .astore 5), (75, .aload 5), (77, .ifnull 22), (80, .aload_n 0), (81, .getfield 20), (84, .aload_n 1), (85, .aload 5), (87, .invokevirtual 51), (90, .aload_n 0), (91, .aload_n 1), (92, .aload 5), (94, .iload 4), (96, .invokevirtual 57), (99, .iinc 4 1), (102, .goto (-44)), (105, .aload_n 0), (106, .getfield 14), (109, .ldc 61), (111, .invokevirtual 63), (114, .aload_n 0), (115, .getfield 14), (118, .areturn)]
def tbTw_writeHead : xT := [(0, .aload_n 0), (1, .getfield 14), (4, .ldc 67), (6, .invokevirtual 63), (9, .aload_n 0), (10, .getfield 14), (13, .bipush 76), (15, .aload_n 0), (16, .getfield 28), (19, .invokevirtual 69), (22, .aload_n 0), (23, .getfield 14), (26, .bipush 44), (28, .aload_n 0), (29, .getfield 32), (32, .invokevirtual 69), (35, .aload_n 0), (36, .getfield 14), (39, .bipush 10), (41, .invokevirtual 73), (44, .pop), (45, .iconst 0), (46, .istore_n 2), (47, .iload_n 2), (48, .aload_n 1), (49, .getfield 42), (52, .if_icmp .ge 63), (55, .aload_n 1), (56, .iload_n 2), (57, .invokevirtual 47), (60, .astore_n 3), (61, .aload_n 3), (62, .ifnull 47), (65, .aload_n 0), (66, .getfield 14), (69, .bipush 84), (71, .iload_n 2), (72, .invokevirtual 69), (75, .aload_n 0), (76, .getfield 14), (79, .bipush 67), (81, .aload_n 3), (82, .getfield 77), (85, .invokevirtual 69), (88, .aload_n 0), (89, .getfield 14), (92, .aload_n 3), (93, .getfield 82), (96, .ifCond .eq 8), (99, .ldc 85), (101, .goto 5), (104, .ldc 87), (106, .invokevirtual 63), (109, .iinc 2 1), (112, .goto (-65)), (115, .aload_n 0), (116, .getfield 14), (119, .ldc 89), (121, .invokevirtual 63), (124, .return_)]
def tbRo_pushText : xT := [(0, .iconst 0), (1, .istore_n 2), (2, .iload_n 2), (3, .aload_n 1), (4, .invokevirtual 28), (7, .if_icmp .ge 19), (10, .aload_n 0), (11, .aload_n 1), (12, .iload_n 2), (13, .invokevirtual 34), (16, .invokevirtual 38), (19, .pop), (20, .iinc 2 1), (23, .goto (-21)), (26, .return_)]
def tbRo_pushPart : xT := [(0, .aload_n 0), (1, .iload_n 1), (2, .invokevirtual 38), (5, .pop), (6, .iload_n 2), (7, .ifCond .ge 10), (10, .aload_n 0), (11, .bipush 45), (13, .invokevirtual 38), (16, .pop), (17, .iload_n 2), (18, .invokestatic 42), (21, .istore_n 3), (22, .ldc 48), (24, .istore 4), (26, .iload 4), (28, .ifCond .le 40), (31, .iload_n 3), (32, .iload 4), (34, .if_icmp .ge 9), (37, .iload 4), (39, .iconst 1), (40, .if_icmp .ne 18), (43, .aload_n 0), (44, .bipush 48), (46, .iload_n 3), (47, .iload 4), (49, .idiv), (50, .bipush 10), (52, .irem), (53, .iadd), (54, .invokevirtual 38), (57, .pop), (58, .iload 4), (60, .bipush 10), (62, .idiv), (63, .istore 4), (65, .goto (-39)), (68, .return_)]
def tbJMa_abs : xT := [(0, .iload_n 0), (1, .ifCond .ge 8), (4, .iload_n 0), (5, .ineg), (6, .goto 4), (9, .iload_n 0), (10, .ireturn)]
def tbPl_plan : xT := [(0, .aload_n 2), (1, .getfield 35), (4, .ifCond .eq 4), (7, .return_), (8, .aload_n 2), (9, .invokevirtual 41), (12, .aload_n 0), (13, .aload_n 1), (14, .aload_n 2), (15, .invokevirtual 44), (18, .aload_n 0), (19, .getfield 48), (22, .bipush 8), (24, .if_icmp .gt 19), (27, .aload_n 0), (28, .invokevirtual 52), (31, .aload_n 0), (32, .invokevirtual 55), (35, .aload_n 0), (36, .aload_n 2), (37, .invokevirtual 58), (40, .goto 8), (43, .aload_n 0), (44, .aload_n 2), (45, .invokevirtual 62), (48, .return_)]
def tbTo_beginPlan : xT := [(0, .aload_n 0), (1, .getfield 20), (4, .invokevirtual 38), (7, .aload_n 0), (8, .lconst 0), (9, .putfield 41), (12, .aload_n 0), (13, .iconst 1), (14, .putfield 35), (17, .return_)]
def tbPl_gather : xT := [(0, .aload_n 0), (1, .iconst 0), (2, .putfield 48), (5, .iconst 0), (6, .istore_n 3), (7, .iload_n 3), (8, .aload_n 2), (9, .getfield 65), (12, .getfield 69), (15, .if_icmp .ge 68), (18, .aload_n 1), (19, .aload_n 2), (20, .getfield 65), (23, .iload_n 3), (24, .invokevirtual 72), (27, .invokevirtual 76), (30, .astore 4), (32, .aload 4), (34, .ifnull 43), (37, .aload_n 0), (38, .getfield 48), (41, .bipush 60), (43, .if_icmp .ge 34), (46, .aload_n 0), (47, .getfield 20), (50, .aload_n 0), (51, .getfield 48), (54, .aload 4), (56, .aastore), (57, .aload_n 0), (58, .getfield 24), (61, .aload_n 0), (62, .getfield 48), (65, .iconst 0), (66, .bastore), (67, .aload_n 0), (68, .dup), (69, .getfield 48), (72, .iconst 1), (73, .iadd), (74, .putfield 48), (77, .iinc 3 1), (80, .goto (-73)), (83, .return_)]
def tbDr_hitAt : xT := [(0, .iload_n 1), (1, .ifCond .lt 20), (4, .iload_n 1), (5, .aload_n 0), (6, .getfield 37), (9, .if_icmp .ge 12), (12, .aload_n 0), (13, .getfield 19), (16, .iload_n 1), (17, .aaload), (18, .goto 4), (21, .aconst_null), (22, .areturn)]
def tbPl_measureWays : xT := [(0, .iconst 0), (1, .istore_n 1), (2, .iload_n 1), (3, .aload_n 0), (4, .getfield 48), (7, .if_icmp .ge 73), (10, .iconst 0), (11, .istore_n 2), (12, .iload_n 2), (13, .aload_n 0), (14, .getfield 48), (17, .if_icmp .ge 35), (20, .aload_n 0), (21, .getfield 28), (24, .iload_n 2), (25, .bipush 8), (27, .imul), (28, .iload_n 1), (29, .iadd), (30, .aload_n 0), (31, .getfield 20), (34, .iload_n 2), (35, .aaload), (36, .aload_n 0), (37, .getfield 20), (40, .iload_n 1), (41, .aaload), (42, .invokevirtual 82), (45, .iastore), (46, .iinc 2 1), (49, .goto (-37)), (52, .aload_n 0), (53, .getfield 28), (56, .bipush 64), (58, .iload_n 1), (59, .iadd), (60, .aload_n 0), (61, .getfield 14), (64, .aload_n 0), (65, .getfield 20), (68, .iload_n 1), (69, .aaload), (70, .invokevirtual 82), (73, .iastore), (74, .iinc 1 1), (77, .goto (-75)), (80, .return_)]
def tbHi_wayTo : xT := [(0, .aload_n 1), (1, .getfield 13), (4, .aload_n 0), (5, .getfield 19), (8, .isub), (9, .invokestatic 31), (12, .aload_n 1), (13, .getfield 16), (16, .aload_n 0), (17, .getfield 22), (20, .isub), (21, .invokestatic 31), (24, .invokestatic 37), (27, .ireturn)]
def tbJMa_max : xT := [(0, .iload_n 0), (1, .iload_n 1), (2, .if_icmp .lt 7), (5, .iload_n 0), (6, .goto 4), (9, .iload_n 1), (10, .ireturn)]
def tbPl_measureRest : xT := [(0, .iconst 1), (1, .aload_n 0), (2, .getfield 48), (5, .ishl), (6, .iconst 1), (7, .isub), (8, .istore_n 1), (9, .iload_n 1), (10, .ifCond .le 55), (13, .iconst 0), (14, .istore_n 2), (15, .iload_n 2), (16, .aload_n 0), (17, .getfield 48), (20, .if_icmp .ge 39), (23, .iload_n 1), (24, .iload_n 2), (25, .ishr), (26, .iconst 1), (27, .iand), (28, .ifCond .eq 25), (31, .aload_n 0), (32, .iload_n 1), (33, .iload_n 2), (34, .invokevirtual 86), (37, .pop), (38, .aload_n 0), (39, .getfield 32), (42, .iload_n 1), (43, .bipush 8), (45, .imul), (46, .iload_n 2), (47, .iadd), (48, .aload_n 0), (49, .getfield 90), (52, .iastore), (53, .iinc 2 1), (56, .goto (-41)), (59, .iinc 1 (-1)), (62, .goto (-53)), (65, .return_)]
def tbPl_bestNext : xT := [(0, .iconst (-1)), (1, .istore_n 3), (2, .aload_n 0), (3, .iconst 0), (4, .putfield 90), (7, .iconst 0), (8, .istore 4), (10, .iload 4), (12, .aload_n 0), (13, .getfield 48), (16, .if_icmp .ge 77), (19, .iload_n 1), (20, .iload 4), (22, .ishr), (23, .iconst 1), (24, .iand), (25, .ifCond .ne 62), (28, .aload_n 0), (29, .getfield 32), (32, .iload_n 1), (33, .iconst 1), (34, .iload 4), (36, .ishl), (37, .ior), (38, .bipush 8), (40, .imul), (41, .iload 4), (43, .iadd), (44, .iaload), (45, .istore 5), (47, .aload_n 0), (48, .getfield 28), (51, .iload_n 2), (52, .bipush 8), (54, .imul), (55, .iload 4), (57, .iadd), (58, .iaload), (59, .iload 5), (61, .iadd), (62, .istore 6), (64, .iload_n 3), (65, .iconst (-1)), (66, .if_icmp .eq 12), (69, .iload 6), (71, .aload_n 0), (72, .getfield 90), (75, .if_icmp .ge 12), (78, .iload 4), (80, .istore_n 3), (81, .aload_n 0), (82, .iload 6), (84, .putfield 90), (87, .iinc 4 1), (90, .goto (-80)), (93, .iload_n 3), (94, .ireturn)]
def tbPl_planLeast : xT := [(0, .iconst 0), (1, .istore_n 2), (2, .bipush 8), (4, .istore_n 3), (5, .iconst 0), (6, .istore 4), (8, .iload 4), (10, .aload_n 0), (11, .getfield 48), (14, .if_icmp .ge 59), (17, .aload_n 0), (18, .iload_n 2), (19, .iload_n 3), (20, .invokevirtual 86), (23, .istore 5), (25, .iload 5), (27, .iconst (-1)), (28, .if_icmp .ne 4), (31, .return_), (32, .aload_n 1), (33, .aload_n 1), (34, .getfield 65), (37, .iload 5), (39, .invokevirtual 72), (42, .aload_n 0), (43, .getfield 28), (46, .iload_n 3), (47, .bipush 8), (49, .imul), (50, .iload 5), (52, .iadd), (53, .iaload), (54, .invokevirtual 93), (57, .iload_n 2), (58, .iconst 1), (59, .iload 5), (61, .ishl), (62, .ior), (63, .istore_n 2), (64, .iload 5), (66, .istore_n 3), (67, .iinc 4 1), (70, .goto (-62)), (73, .return_)]
def tbTo_planNext : xT := [(0, .aload_n 0), (1, .getfield 20), (4, .iload_n 1), (5, .invokevirtual 31), (8, .pop), (9, .aload_n 0), (10, .dup), (11, .getfield 41), (14, .iload_n 2), (15, .i2l), (16, .ladd), (17, .putfield 41), (20, .return_)]
def tbPl_planNearest : xT := [(0, .aload_n 0), (1, .getfield 14), (4, .astore_n 2), (5, .iconst 0), (6, .istore_n 3), (7, .iload_n 3), (8, .aload_n 0), (9, .getfield 48), (12, .if_icmp .ge 56), (15, .aload_n 0), (16, .aload_n 2), (17, .invokevirtual 97), (20, .istore 4), (22, .iload 4), (24, .iconst (-1)), (25, .if_icmp .ne 4), (28, .return_), (29, .aload_n 1), (30, .aload_n 1), (31, .getfield 65), (34, .iload 4), (36, .invokevirtual 72), (39, .aload_n 0), (40, .getfield 90), (43, .invokevirtual 93), (46, .aload_n 0), (47, .getfield 24), (50, .iload 4), (52, .iconst 1), (53, .bastore), (54, .aload_n 0), (55, .getfield 20), (58, .iload 4), (60, .aaload), (61, .astore_n 2), (62, .iinc 3 1), (65, .goto (-58)), (68, .return_)]
def tbPl_nearest : xT := [(0, .iconst (-1)), (1, .istore_n 2), (2, .aload_n 0), (3, .iconst 0), (4, .putfield 90), (7, .iconst 0), (8, .istore_n 3), (9, .iload_n 3), (10, .aload_n 0), (11, .getfield 48), (14, .if_icmp .ge 52), (17, .aload_n 0), (18, .getfield 24), (21, .iload_n 3), (22, .baload), (23, .ifCond .ne 37), (26, .aload_n 1), (27, .aload_n 0), (28, .getfield 20), (31, .iload_n 3), (32, .aaload), (33, .invokevirtual 82), (36, .istore 4), (38, .iload_n 2), (39, .iconst (-1)), (40, .if_icmp .eq 12), (43, .iload 4), (45, .aload_n 0), (46, .getfield 90), (49, .if_icmp .ge 11), (52, .iload_n 3), (53, .istore_n 2), (54, .aload_n 0), (55, .iload 4), (57, .putfield 90), (60, .iinc 3 1), (63, .goto (-54)), (66, .iload_n 2), (67, .ireturn)]
def tbTw_writeHits : xT := [(0, .iconst 0), (1, .istore 4), (3, .iconst 0), (4, .istore 5), (6, .iload 5), (8, .aload_n 2), (9, .getfield 91), (12, .getfield 94), (15, .if_icmp .ge 87), (18, .aload_n 1), (19, .aload_n 2), (20, .getfield 91), (23, .iload 5), (25, .invokevirtual 97), (28, .invokevirtual 101), (31, .astore 6), (33, .aload 6), (35, .ifnull 61), (38, .aload 6), (40, .getfield 105), (43, .aload_n 0), (44, .getfield 28), (47, .if_icmp .ne 49), (50, .aload 6), (52, .getfield 110), (55, .aload_n 0), (56, .getfield 32), (59, .if_icmp .ne 37), (62, .iload 4), (64, .ifCond .ne 26), (67, .aload_n 0), (68, .getfield 14), (71, .bipush 84), (73, .iload_n 3), (74, .invokevirtual 69), (77, .aload_n 0), (78, .getfield 14), (81, .bipush 10), (83, .invokevirtual 73), (86, .pop), (87, .iconst 1), (88, .istore 4), (90, .aload_n 0), (91, .aload 6), (93, .invokevirtual 113), (96, .iinc 5 1), (99, .goto (-93)), (102, .return_)]
def tbTw_writeHit : xT := [(0, .aload_n 0), (1, .getfield 14), (4, .bipush 88), (6, .aload_n 1), (7, .getfield 117), (10, .invokevirtual 69), (13, .aload_n 0), (14, .getfield 14), (17, .bipush 89), (19, .aload_n 1), (20, .getfield 120), (23, .invokevirtual 69), (26, .aload_n 1), (27, .invokevirtual 123), (30, .ifCond .eq 38), (33, .aload_n 0), (34, .getfield 14), (37, .ldc 127), (39, .invokevirtual 63), (42, .aload_n 0), (43, .getfield 14), (46, .bipush 88), (48, .aload_n 1), (49, .getfield 129), (52, .invokevirtual 69), (55, .aload_n 0), (56, .getfield 14), (59, .bipush 89), (61, .aload_n 1), (62, .getfield 132), (65, .invokevirtual 69), (68, .aload_n 0), (69, .getfield 14), (72, .bipush 10), (74, .invokevirtual 73), (77, .pop), (78, .return_)]
def tbHi_isSlot : xT := [(0, .aload_n 0), (1, .getfield 13), (4, .aload_n 0), (5, .getfield 19), (8, .if_icmp .ne 14), (11, .aload_n 0), (12, .getfield 16), (15, .aload_n 0), (16, .getfield 22), (19, .if_icmp .eq 7), (22, .iconst 1), (23, .goto 4), (26, .iconst 0), (27, .ireturn)]
def tbRo_same : xT := [(0, .aload_n 0), (1, .getfield 19), (4, .aload_n 1), (5, .getfield 19), (8, .if_icmp .eq 5), (11, .iconst 0), (12, .ireturn), (13, .iconst 0), (14, .istore_n 2), (15, .iload_n 2), (16, .aload_n 0), (17, .getfield 19), (20, .if_icmp .ge 24), (23, .aload_n 0), (24, .iload_n 2), (25, .invokevirtual 49), (28, .aload_n 1), (29, .iload_n 2), (30, .invokevirtual 49), (33, .if_icmp .eq 5), (36, .iconst 0), (37, .ireturn), (38, .iinc 2 1), (41, .goto (-26)), (44, .iconst 1), (45, .ireturn)]
def tbDa_clear : xT := [(0, .aload_n 0), (1, .new 37), (4, .dup), (5, .invokespecial 39), (8, .putfield 40), (11, .aload_n 0), (12, .new 44), (15, .dup), (16, .invokespecial 46), (19, .putfield 47), (22, .aload_n 0), (23, .getfield 30), (26, .invokevirtual 121), (29, .aload_n 0), (30, .getfield 34), (33, .invokevirtual 121), (36, .aload_n 0), (37, .getfield 21), (40, .invokevirtual 62), (43, .return_)]
def tbLa_tool : xT := [(0, .aload 4), (2, .iconst 0), (3, .aload_n 0), (4, .lload_n 1), (5, .iload_n 3), (6, .invokevirtual 7), (9, .i2l), (10, .lastore), (11, .goto 7), (14, .astore 5), (16, .iconst 1), (17, .ireturn), (18, .iconst 0), (19, .ireturn)]
def tbDa_tool : xT := [(0, .lload_n 1), (1, .invokestatic 51), (4, .ifCond .ne 13), (7, .new 55), (10, .dup), (11, .ldc 57), (13, .invokespecial 59), (16, .athrow), (17, .aload_n 0), (18, .getfield 21), (21, .invokevirtual 62), (24, .aload_n 0), (25, .getfield 40), (28, .lload_n 1), (29, .l2i), (30, .iload_n 3), (31, .invokevirtual 65), (34, .ireturn)]
def tbJTh_init : xT := [(0, .aload_n 0), (1, .invokespecial 1), (4, .aload_n 0), (5, .aload_n 0), (6, .putfield 7), (9, .aload_n 0), (10, .getstatic 13), (13, .putfield 17), (16, .aload_n 0), (17, .getstatic 20), (20, .putfield 24), (23, .aload_n 0), (24, .invokevirtual 27), (27, .pop), (28, .return_)]
def tbJIa_init : xT := [(0, .aload_n 0), (1, .aload_n 1), (2, .invokespecial 7), (5, .return_)]
def tbJRe_init : xT := [(0, .aload_n 0), (1, .aload_n 1), (2, .invokespecial 7), (5, .return_)]
def tbJEx_init : xT := [(0, .aload_n 0), (1, .aload_n 1), (2, .invokespecial 7), (5, .return_)]
def tbJTh_init2 : xT := [(0, .aload_n 0), (1, .invokespecial 1), (4, .aload_n 0), (5, .aload_n 0), (6, .putfield 7), (9, .aload_n 0), (10, .getstatic 13), (13, .putfield 17), (16, .aload_n 0), (17, .getstatic 20), (20, .putfield 24), (23, .aload_n 0), (24, .invokevirtual 27), (27, .pop), (28, .aload_n 0), (29, .aload_n 1), (30, .putfield 31), (33, .return_)]
def tbLa_hole : xT := [(0, .aload 8), (2, .iconst 0), (3, .aload_n 0), (4, .iload_n 1), (5, .lload_n 2), (6, .lload 4), (8, .iload 6), (10, .iload 7), (12, .invokevirtual 15), (15, .i2l), (16, .lastore), (17, .goto 11), (20, .astore 9), (22, .iconst 1), (23, .ireturn), (24, .astore 9), (26, .iconst 2), (27, .ireturn), (28, .iconst 0), (29, .ireturn)]
def tbDa_hole : xT := [(0, .aload_n 0), (1, .iload_n 1), (2, .invokevirtual 69), (5, .pop), (6, .iload 6), (8, .invokestatic 73), (11, .ifCond .eq 11), (14, .iload 7), (16, .invokestatic 73), (19, .ifCond .ne 13), (22, .new 77), (25, .dup), (26, .ldc 79), (28, .invokespecial 81), (31, .athrow), (32, .lload_n 2), (33, .lload 4), (35, .invokestatic 82), (38, .ifCond .eq 10), (41, .iload 6), (43, .iload 7), (45, .if_icmp .le 13), (48, .new 55), (51, .dup), (52, .ldc 86), (54, .invokespecial 59), (57, .athrow), (58, .aload_n 0), (59, .getfield 21), (62, .invokevirtual 62), (65, .aload_n 0), (66, .getfield 40), (69, .new 88), (72, .dup), (73, .iload_n 1), (74, .lload_n 2), (75, .l2i), (76, .lload 4), (78, .l2i), (79, .lload_n 2), (80, .l2i), (81, .lload 4), (83, .l2i), (84, .iload 6), (86, .iload 7), (88, .invokespecial 90), (91, .invokevirtual 93), (94, .ireturn)]
def tbDa_knownTool : xT := [(0, .aload_n 0), (1, .getfield 40), (4, .iload_n 1), (5, .invokevirtual 202), (8, .astore_n 2), (9, .aload_n 2), (10, .ifnonnull 13), (13, .new 77), (16, .dup), (17, .ldc 205), (19, .invokespecial 81), (22, .athrow), (23, .aload_n 2), (24, .areturn)]
def tbJIo_init : xT := [(0, .aload_n 0), (1, .aload_n 1), (2, .invokespecial 7), (5, .return_)]
def tbLa_slot : xT := [(0, .aload 10), (2, .iconst 0), (3, .aload_n 0), (4, .iload_n 1), (5, .lload_n 2), (6, .lload 4), (8, .lload 6), (10, .lload 8), (12, .invokevirtual 21), (15, .i2l), (16, .lastore), (17, .goto 11), (20, .astore 11), (22, .iconst 1), (23, .ireturn), (24, .astore 11), (26, .iconst 2), (27, .ireturn), (28, .iconst 0), (29, .ireturn)]
def tbDa_slot : xT := [(0, .aload_n 0), (1, .iload_n 1), (2, .invokevirtual 69), (5, .pop), (6, .lload_n 2), (7, .lload 4), (9, .invokestatic 82), (12, .ifCond .eq 28), (15, .lload 6), (17, .lload 8), (19, .invokestatic 82), (22, .ifCond .eq 18), (25, .lload_n 2), (26, .lload 6), (28, .lcmp), (29, .ifCond .ne 21), (32, .lload 4), (34, .lload 8), (36, .lcmp), (37, .ifCond .ne 13), (40, .new 55), (43, .dup), (44, .ldc 97), (46, .invokespecial 59), (49, .athrow), (50, .aload_n 0), (51, .getfield 21), (54, .invokevirtual 62), (57, .aload_n 0), (58, .getfield 40), (61, .new 88), (64, .dup), (65, .iload_n 1), (66, .lload_n 2), (67, .l2i), (68, .lload 4), (70, .l2i), (71, .lload 6), (73, .l2i), (74, .lload 8), (76, .l2i), (77, .iconst 0), (78, .bipush 7), (80, .invokespecial 90), (83, .invokevirtual 93), (86, .ireturn)]
def tbLa_write : xT := [(0, .aload_n 3), (1, .iconst 0), (2, .aload_n 0), (3, .iload_n 1), (4, .iload_n 2), (5, .invokevirtual 25), (8, .i2l), (9, .lastore), (10, .goto 7), (13, .astore 4), (15, .iconst 1), (16, .ireturn), (17, .iconst 0), (18, .ireturn)]
def tbDa_write : xT := [(0, .iload_n 1), (1, .bipush 10), (3, .idiv), (4, .istore_n 3), (5, .iload_n 1), (6, .bipush 10), (8, .irem), (9, .istore 4), (11, .iload_n 2), (12, .ifCond .lt 24), (15, .iload_n 3), (16, .invokestatic 73), (19, .ifCond .eq 17), (22, .iload 4), (24, .invokestatic 73), (27, .ifCond .eq 9), (30, .iload_n 3), (31, .iload 4), (33, .if_icmp .le 13), (36, .new 77), (39, .dup), (40, .ldc 99), (42, .invokespecial 81), (45, .athrow), (46, .aload_n 0), (47, .getfield 21), (50, .aload_n 0), (51, .getfield 40), (54, .iload_n 3), (55, .iload 4), (57, .invokevirtual 101), (60, .iload_n 2), (61, .invokevirtual 105), (64, .ireturn)]
def tbLa_at : xT := [(0, .aload_n 3), (1, .iconst 0), (2, .aload_n 0), (3, .iload_n 1), (4, .iload_n 2), (5, .invokevirtual 29), (8, .lastore), (9, .goto 7), (12, .astore 4), (14, .iconst 1), (15, .ireturn), (16, .iconst 0), (17, .ireturn)]
def tbDa_at : xT := [(0, .aload_n 0), (1, .getfield 40), (4, .iload_n 1), (5, .invokevirtual 128), (8, .astore_n 3), (9, .aload_n 3), (10, .ifnull 13), (13, .iload_n 2), (14, .ifCond .lt 9), (17, .iload_n 2), (18, .bipush 7), (20, .if_icmp .le 13), (23, .new 77), (26, .dup), (27, .ldc 132), (29, .invokespecial 81), (32, .athrow), (33, .aload_n 3), (34, .iload_n 2), (35, .invokevirtual 134), (38, .lreturn)]
def tbHi_part : xT := [(0, .iload_n 1), (44, .aload_n 0), (45, .getfield 7), (48, .i2l), (49, .lreturn), (50, .aload_n 0), (51, .getfield 13), (54, .i2l), (55, .lreturn), (56, .aload_n 0), (57, .getfield 16), (60, .i2l), (61, .lreturn), (62, .aload_n 0), (63, .getfield 19), (66, .i2l), (67, .lreturn), (68, .aload_n 0), (69, .getfield 22), (72, .i2l), (73, .lreturn), (74, .aload_n 0), (75, .getfield 25), (78, .i2l), (79, .lreturn), (80, .aload_n 0), (81, .getfield 28), (84, .i2l), (85, .lreturn), (86, .aload_n 0), (87, .invokevirtual 41), (90, .ifCond .eq 7), (93, .lconst 1), (94, .goto 4), (97, .lconst 0), (98, .lreturn)]
def tbLa_order : xT := [(0, .aload_n 3), (1, .iconst 0), (2, .aload_n 0), (3, .iload_n 1), (4, .iload_n 2), (5, .invokevirtual 33), (8, .i2l), (9, .lastore), (10, .goto 7), (13, .astore 4), (15, .iconst 1), (16, .ireturn), (17, .iconst 0), (18, .ireturn)]
def tbDa_order : xT := [(0, .aload_n 0), (1, .iload_n 1), (2, .invokevirtual 69), (5, .astore_n 3), (6, .aload_n 0), (7, .getfield 10), (10, .aload_n 0), (11, .getfield 40), (14, .aload_n 3), (15, .invokevirtual 138), (18, .aload_n 3), (19, .getfield 142), (22, .iload_n 2), (23, .invokevirtual 105), (26, .ireturn)]
def tbLa_travel : xT := [(0, .aload_n 2), (1, .iconst 0), (2, .aload_n 0), (3, .iload_n 1), (4, .invokevirtual 36), (7, .lastore), (8, .goto 6), (11, .astore_n 3), (12, .iconst 1), (13, .ireturn), (14, .iconst 0), (15, .ireturn)]
def tbDa_travel : xT := [(0, .aload_n 0), (1, .iload_n 1), (2, .invokevirtual 69), (5, .astore_n 2), (6, .aload_n 0), (7, .getfield 10), (10, .aload_n 0), (11, .getfield 40), (14, .aload_n 2), (15, .invokevirtual 138), (18, .aload_n 2), (19, .getfield 147), (22, .lreturn)]
def tbLa_proved : xT := [(0, .aload_n 2), (1, .iconst 0), (2, .aload_n 0), (3, .iload_n 1), (4, .invokevirtual 40), (7, .ifCond .eq 7), (10, .lconst 1), (11, .goto 4), (14, .lconst 0), (15, .lastore), (16, .goto 6), (19, .astore_n 3), (20, .iconst 1), (21, .ireturn), (22, .iconst 0), (23, .ireturn)]
def tbDa_proved : xT := [(0, .aload_n 0), (1, .iload_n 1), (2, .invokevirtual 69), (5, .getfield 151), (8, .getfield 154), (11, .bipush 8), (13, .if_icmp .gt 7), (16, .iconst 1), (17, .goto 4), (20, .iconst 0), (21, .ireturn)]
def tbLa_file : xT := [(0, .aload_n 2), (1, .iconst 0), (2, .aload_n 0), (3, .iload_n 1), (4, .invokevirtual 44), (7, .i2l), (8, .lastore), (9, .goto 6), (12, .astore_n 3), (13, .iconst 1), (14, .ireturn), (15, .iconst 0), (16, .ireturn)]
def tbDa_file : xT := [(0, .iload_n 1), (1, .invokestatic 157), (4, .ifCond .ne 13), (7, .new 55), (10, .dup), (11, .ldc 160), (13, .invokespecial 59), (16, .athrow), (17, .aload_n 0), (18, .getfield 47), (21, .iload_n 1), (22, .invokevirtual 162), (25, .ireturn)]
def tbLa_byteOf : xT := [(0, .aload_n 3), (1, .iconst 0), (2, .aload_n 0), (3, .iload_n 1), (4, .iload_n 2), (5, .invokevirtual 48), (8, .ifCond .eq 7), (11, .lconst 1), (12, .goto 4), (15, .lconst 0), (16, .lastore), (17, .goto 11), (20, .astore 4), (22, .iconst 1), (23, .ireturn), (24, .astore 4), (26, .iconst 2), (27, .ireturn), (28, .iconst 0), (29, .ireturn)]
def tbDa_byteOf : xT := [(0, .aload_n 0), (1, .iload_n 1), (2, .invokevirtual 165), (5, .astore_n 3), (6, .iload_n 2), (7, .invokestatic 169), (10, .ifCond .ne 13), (13, .new 55), (16, .dup), (17, .ldc 172), (19, .invokespecial 59), (22, .athrow), (23, .aload_n 3), (24, .iload_n 2), (25, .invokevirtual 174), (28, .ireturn)]
def tbDa_knownFile : xT := [(0, .aload_n 0), (1, .getfield 47), (4, .iload_n 1), (5, .invokevirtual 207), (8, .astore_n 2), (9, .aload_n 2), (10, .ifnonnull 13), (13, .new 77), (16, .dup), (17, .ldc 210), (19, .invokespecial 81), (22, .athrow), (23, .aload_n 2), (24, .areturn)]
def tbLa_archive : xT := [(0, .aload_n 2), (1, .iconst 0), (2, .aload_n 0), (3, .iload_n 1), (4, .invokevirtual 52), (7, .i2l), (8, .lastore), (9, .goto 6), (12, .astore_n 3), (13, .iconst 1), (14, .ireturn), (15, .iconst 0), (16, .ireturn)]
def tbDa_archive : xT := [(0, .iload_n 1), (1, .ifCond .ge 13), (4, .new 77), (7, .dup), (8, .ldc 177), (10, .invokespecial 81), (13, .athrow), (14, .aload_n 0), (15, .getfield 47), (18, .iload_n 1), (19, .invokevirtual 179), (22, .ireturn)]
def tbFs_joined : xT := [(0, .iload_n 1), (1, .ifCond .ne 8), (4, .aload_n 0), (5, .getfield 25), (8, .ireturn), (9, .iload_n 1), (10, .iconst 1), (11, .isub), (12, .istore_n 2), (13, .iconst 0), (14, .istore_n 3), (15, .iload_n 3), (16, .aload_n 0), (17, .getfield 25), (20, .if_icmp .ge 45), (23, .aload_n 0), (24, .iload_n 3), (25, .invokevirtual 32), (28, .astore 4), (30, .aload 4), (32, .ifnull 27), (35, .iload_n 2), (36, .aload 4), (38, .invokevirtual 38), (41, .if_icmp .ge 10), (44, .aload 4), (46, .iload_n 2), (47, .invokevirtual 42), (50, .ireturn), (51, .iload_n 2), (52, .aload 4), (54, .invokevirtual 38), (57, .isub), (58, .istore_n 2), (59, .iinc 3 1), (62, .goto (-47)), (65, .iconst (-1)), (66, .ireturn)]
def tbSf_joinedSize : xT := [(0, .iconst 3), (1, .aload_n 0), (2, .getfield 14), (5, .getfield 31), (8, .iadd), (9, .iconst 2), (10, .iadd), (11, .ireturn)]
def tbSf_joined : xT := [(0, .aload_n 0), (1, .getfield 14), (4, .getfield 31), (7, .istore_n 2), (8, .iload_n 1), (36, .aload_n 0), (37, .getfield 20), (40, .ireturn), (41, .iload_n 2), (42, .sipush 256), (45, .irem), (46, .ireturn), (47, .iload_n 2), (48, .sipush 256), (51, .idiv), (52, .ireturn), (53, .iload_n 1), (54, .iconst 3), (55, .isub), (56, .istore_n 3), (57, .iload_n 3), (58, .iload_n 2), (59, .if_icmp .ge 12), (62, .aload_n 0), (63, .getfield 14), (66, .iload_n 3), (67, .invokevirtual 35), (70, .ireturn), (71, .iload_n 3), (72, .iload_n 2), (73, .if_icmp .ne 14), (76, .aload_n 0), (77, .getfield 28), (80, .sipush 256), (83, .irem), (84, .goto 11), (87, .aload_n 0), (88, .getfield 28), (91, .sipush 256), (94, .idiv), (95, .ireturn)]
def tbLa_sum : xT := [(0, .aload_n 2), (1, .iconst 0), (2, .aload_n 0), (3, .iload_n 1), (4, .invokevirtual 55), (7, .lastore), (8, .goto 6), (11, .astore_n 3), (12, .iconst 1), (13, .ireturn), (14, .iconst 0), (15, .ireturn)]
def tbDa_sum : xT := [(0, .aload_n 0), (1, .iload_n 1), (2, .invokevirtual 165), (5, .getfield 199), (8, .i2l), (9, .lreturn)]
def tbMo_init : xT := [(0, .aload_n 0), (1, .invokespecial 1), (4, .aload_n 0), (5, .iconst 2), (6, .newarray .int), (8, .putfield 7), (11, .aload_n 0), (12, .bipush 20), (14, .newarray .long), (16, .putfield 13), (19, .aload_n 0), (20, .bipush 20), (22, .newarray .boolean), (24, .putfield 17), (27, .aload_n 0), (28, .iconst 2), (29, .newarray .int), (31, .putfield 21), (34, .aload_n 0), (35, .bipush 120), (37, .newarray .int), (39, .putfield 24), (42, .aload_n 0), (43, .bipush 120), (45, .newarray .long), (47, .putfield 27), (50, .aload_n 0), (51, .bipush 120), (53, .newarray .long), (55, .putfield 30), (58, .aload_n 0), (59, .bipush 120), (61, .newarray .long), (63, .putfield 33), (66, .aload_n 0), (67, .bipush 120), (69, .newarray .long), (71, .putfield 36), (74, .aload_n 0), (75, .bipush 120), (77, .newarray .int), (79, .putfield 39), (82, .aload_n 0), (83, .bipush 120), (85, .newarray .int), (87, .putfield 42), (90, .aload_n 0), (91, .bipush 120), (93, .newarray .boolean), (95, .putfield 45), (98, .aload_n 0), (99, .bipush 60), (101, .newarray .int), (103, .putfield 48), (106, .aload_n 0), (107, .bipush 60), (109, .newarray .int), (111, .putfield 51), (114, .aload_n 0), (115, .sipush 2048), (118, .newarray .long), (120, .putfield 54), (123, .aload_n 0), (124, .sipush 3000), (127, .newarray .int), (129, .putfield 57), (132, .aload_n 0), (133, .sipush 2000), (136, .newarray .int), (138, .putfield 60), (141, .aload_n 0), (142, .bipush 8), (144, .newarray .int), (146, .putfield 63), (149, .aload_n 0), (150, .bipush 8), (152, .newarray .int), (154, .putfield 66), (157, .aload_n 0), (158, .sipush 2400), (161, .newarray .int), (163, .putfield 69), (166, .aload_n 0), (167, .sipush 2600), (170, .newarray .int), (172, .putfield 72), (175, .return_)]
def tbMo_thrown : xT := [(0, .aload_n 0), (1, .getfield 75), (4, .ireturn)]
def tbMo_clear : xT := [(0, .aload_n 0), (1, .iconst 0), (2, .putfield 75), (5, .aload_n 0), (6, .getfield 7), (9, .iconst 0), (10, .iconst 0), (11, .iastore), (12, .aload_n 0), (13, .getfield 21), (16, .iconst 0), (17, .iconst 0), (18, .iastore), (19, .aload_n 0), (20, .iconst 0), (21, .putfield 79), (24, .aload_n 0), (25, .iconst 0), (26, .putfield 82), (29, .aload_n 0), (30, .iconst 0), (31, .putfield 85), (34, .return_)]
def tbMo_tool : xT := [(0, .aload_n 0), (1, .lload_n 1), (2, .invokestatic 96), (5, .ifCond .eq 7), (8, .iconst 0), (9, .goto 4), (12, .iconst 1), (13, .putfield 75), (16, .aload_n 0), (17, .getfield 75), (20, .ifCond .eq 5), (23, .iconst 0), (24, .ireturn), (25, .aload_n 0), (26, .getfield 7), (29, .iconst 0), (30, .iaload), (31, .bipush 10), (33, .if_icmp .ne 7), (36, .iconst (-1)), (37, .goto 10), (40, .aload_n 0), (41, .iconst 0), (42, .lload_n 1), (43, .iload_n 3), (44, .invokevirtual 100), (47, .ireturn)]
def tbMo_isDiameter : xT := [(0, .lload_n 0), (1, .lconst 1), (2, .lcmp), (3, .ifCond .lt 15), (6, .lload_n 0), (7, .ldc2_w 94), (10, .lcmp), (11, .ifCond .gt 7), (14, .iconst 1), (15, .goto 4), (18, .iconst 0), (19, .ireturn)]
def tbMo_addTool : xT := [(0, .aload_n 0), (1, .getfield 13), (4, .bipush 10), (6, .iload_n 1), (7, .imul), (8, .aload_n 0), (9, .getfield 7), (12, .iload_n 1), (13, .iaload), (14, .iadd), (15, .lload_n 2), (16, .lastore), (17, .aload_n 0), (18, .getfield 17), (21, .bipush 10), (23, .iload_n 1), (24, .imul), (25, .aload_n 0), (26, .getfield 7), (29, .iload_n 1), (30, .iaload), (31, .iadd), (32, .iload 4), (34, .bastore), (35, .aload_n 0), (36, .getfield 7), (39, .iload_n 1), (40, .dup2), (41, .iaload), (42, .iconst 1), (43, .iadd), (44, .iastore), (45, .aload_n 0), (46, .getfield 7), (49, .iload_n 1), (50, .iaload), (51, .iconst 1), (52, .isub), (53, .ireturn)]
def tbMo_hole : xT := [(0, .aload_n 0), (1, .aload_n 0), (2, .iload_n 1), (3, .invokevirtual 104), (6, .ifCond .eq 21), (9, .iload 6), (11, .i2l), (12, .invokestatic 108), (15, .ifCond .eq 12), (18, .iload 7), (20, .i2l), (21, .invokestatic 108), (24, .ifCond .ne 7), (27, .iconst 1), (28, .goto 24), (31, .lload_n 2), (32, .lload 4), (34, .invokestatic 111), (37, .ifCond .eq 14), (40, .iload 6), (42, .iload 7), (44, .if_icmp .gt 7), (47, .iconst 0), (48, .goto 4), (51, .iconst 2), (52, .putfield 75), (55, .aload_n 0), (56, .getfield 75), (59, .ifCond .eq 5), (62, .iconst 0), (63, .ireturn), (64, .aload_n 0), (65, .getfield 21), (68, .iconst 0), (69, .iaload), (70, .bipush 60), (72, .if_icmp .ne 7), (75, .iconst (-1)), (76, .goto 20), (79, .aload_n 0), (80, .iconst 0), (81, .iload_n 1), (82, .lload_n 2), (83, .lload 4), (85, .lload_n 2), (86, .lload 4), (88, .iload 6), (90, .iload 7), (92, .iconst 0), (93, .invokevirtual 115), (96, .ireturn)]
def tbMo_isTool : xT := [(0, .iload_n 1), (1, .ifCond .lt 17), (4, .iload_n 1), (5, .aload_n 0), (6, .getfield 7), (9, .iconst 0), (10, .iaload), (11, .if_icmp .ge 7), (14, .iconst 1), (15, .goto 4), (18, .iconst 0), (19, .ireturn)]
def tbMo_isLayer : xT := [(0, .lload_n 0), (1, .lconst 0), (2, .lcmp), (3, .ifCond .lt 15), (6, .lload_n 0), (7, .ldc2_w 92), (10, .lcmp), (11, .ifCond .ge 7), (14, .iconst 1), (15, .goto 4), (18, .iconst 0), (19, .ireturn)]
def tbMo_isPlace : xT := [(0, .lload_n 0), (1, .ldc2_w 88), (4, .lcmp), (5, .ifCond .lt 31), (8, .lload_n 0), (9, .ldc2_w 90), (12, .lcmp), (13, .ifCond .gt 23), (16, .lload_n 2), (17, .ldc2_w 88), (20, .lcmp), (21, .ifCond .lt 15), (24, .lload_n 2), (25, .ldc2_w 90), (28, .lcmp), (29, .ifCond .gt 7), (32, .iconst 1), (33, .goto 4), (36, .iconst 0), (37, .ireturn)]
def tbMo_addHit : xT := [(0, .bipush 60), (2, .iload_n 1), (3, .imul), (4, .aload_n 0), (5, .getfield 21), (8, .iload_n 1), (9, .iaload), (10, .iadd), (11, .istore 14), (13, .aload_n 0), (14, .getfield 24), (17, .iload 14), (19, .iload_n 2), (20, .iastore), (21, .aload_n 0), (22, .getfield 27), (25, .iload 14), (27, .lload_n 3), (28, .lastore), (29, .aload_n 0), (30, .getfield 30), (33, .iload 14), (35, .lload 5), (37, .lastore), (38, .aload_n 0), (39, .getfield 33), (42, .iload 14), (44, .lload 7), (46, .lastore), (47, .aload_n 0), (48, .getfield 36), (51, .iload 14), (53, .lload 9), (55, .lastore), (56, .aload_n 0), (57, .getfield 39), (60, .iload 14), (62, .iload 11), (64, .iastore), (65, .aload_n 0), (66, .getfield 42), (69, .iload 14), (71, .iload 12), (73, .iastore), (74, .aload_n 0), (75, .getfield 45), (78, .iload 14), (80, .iload 13), (82, .bastore), (83, .aload_n 0), (84, .getfield 21), (87, .iload_n 1), (88, .dup2), (89, .iaload), (90, .iconst 1), (91, .iadd), (92, .iastore), (93, .aload_n 0), (94, .getfield 21), (97, .iload_n 1), (98, .iaload), (99, .iconst 1), (100, .isub), (101, .ireturn)]
def tbMo_slot : xT := [(0, .lload_n 2), (1, .lload 4), (3, .invokestatic 111), (6, .ifCond .eq 32), (9, .lload 6), (11, .lload 8), (13, .invokestatic 111), (16, .ifCond .eq 22), (19, .lload_n 2), (20, .lload 6), (22, .lcmp), (23, .ifCond .ne 11), (26, .lload 4), (28, .lload 8), (30, .lcmp), (31, .ifCond .eq 7), (34, .iconst 1), (35, .goto 4), (38, .iconst 0), (39, .istore 10), (41, .aload_n 0), (42, .aload_n 0), (43, .iload_n 1), (44, .invokevirtual 104), (47, .ifCond .ne 7), (50, .iconst 1), (51, .goto 13), (54, .iload 10), (56, .ifCond .eq 7), (59, .iconst 0), (60, .goto 4), (63, .iconst 2), (64, .putfield 75), (67, .aload_n 0), (68, .getfield 75), (71, .ifCond .eq 5), (74, .iconst 0), (75, .ireturn), (76, .aload_n 0), (77, .getfield 21), (80, .iconst 0), (81, .iaload), (82, .bipush 60), (84, .if_icmp .ne 7), (87, .iconst (-1)), (88, .goto 20), (91, .aload_n 0), (92, .iconst 0), (93, .iload_n 1), (94, .lload_n 2), (95, .lload 4), (97, .lload 6), (99, .lload 8), (101, .iconst 0), (102, .bipush 7), (104, .iconst 1), (105, .invokevirtual 115), (108, .ireturn)]
def tbMo_at : xT := [(0, .aload_n 0), (1, .iload_n 1), (2, .ifCond .lt 27), (5, .iload_n 1), (6, .aload_n 0), (7, .getfield 21), (10, .iconst 0), (11, .iaload), (12, .if_icmp .ge 17), (15, .iload_n 2), (16, .ifCond .lt 13), (19, .iload_n 2), (20, .bipush 8), (22, .if_icmp .ge 7), (25, .iconst 0), (26, .goto 4), (29, .iconst 1), (30, .putfield 75), (33, .aload_n 0), (34, .getfield 75), (37, .ifCond .eq 5), (40, .lconst 0), (41, .lreturn), (42, .iload_n 2), (84, .aload_n 0), (85, .getfield 24), (88, .iload_n 1), (89, .iaload), (90, .i2l), (91, .lreturn), (92, .aload_n 0), (93, .getfield 27), (96, .iload_n 1), (97, .laload), (98, .lreturn), (99, .aload_n 0), (100, .getfield 30), (103, .iload_n 1), (104, .laload), (105, .lreturn), (106, .aload_n 0), (107, .getfield 33), (110, .iload_n 1), (111, .laload), (112, .lreturn), (113, .aload_n 0), (114, .getfield 36), (117, .iload_n 1), (118, .laload), (119, .lreturn), (120, .aload_n 0), (121, .getfield 39), (124, .iload_n 1), (125, .iaload), (126, .i2l), (127, .lreturn), (128, .aload_n 0), (129, .getfield 42), (132, .iload_n 1), (133, .iaload), (134, .i2l), (135, .lreturn), (136, .aload_n 0), (137, .getfield 45), (140, .iload_n 1), (141, .baload), (142, .ifCond .eq 7), (145, .lconst 1), (146, .goto 4), (149, .lconst 0), (150, .lreturn)]
def tbMo_order : xT := [(0, .aload_n 0), (1, .aload_n 0), (2, .iload_n 1), (3, .invokevirtual 104), (6, .ifCond .eq 7), (9, .iconst 0), (10, .goto 4), (13, .iconst 1), (14, .putfield 75), (17, .aload_n 0), (18, .getfield 75), (21, .ifCond .eq 5), (24, .iconst 0), (25, .ireturn), (26, .aload_n 0), (27, .iload_n 1), (28, .invokevirtual 146), (31, .iload_n 2), (32, .ifCond .lt 20), (35, .iload_n 2), (36, .aload_n 0), (37, .getfield 127), (40, .if_icmp .ge 12), (43, .aload_n 0), (44, .getfield 51), (47, .iload_n 2), (48, .iaload), (49, .goto 4), (52, .iconst (-1)), (53, .ireturn)]
def tbMo_findOrder : xT := [(0, .aload_n 0), (1, .iload_n 1), (2, .invokevirtual 136), (5, .aload_n 0), (6, .getfield 127), (9, .bipush 8), (11, .if_icmp .le 10), (14, .aload_n 0), (15, .invokevirtual 140), (18, .goto 7), (21, .aload_n 0), (22, .invokevirtual 143), (25, .return_)]
def tbMo_collect : xT := [(0, .aload_n 0), (1, .iconst 0), (2, .putfield 127), (5, .iconst 0), (6, .istore_n 2), (7, .iload_n 2), (8, .aload_n 0), (9, .getfield 21), (12, .iconst 0), (13, .iaload), (14, .if_icmp .ge 42), (17, .aload_n 0), (18, .getfield 24), (21, .iload_n 2), (22, .iaload), (23, .iload_n 1), (24, .if_icmp .eq 6), (27, .goto 23), (30, .aload_n 0), (31, .getfield 48), (34, .aload_n 0), (35, .getfield 127), (38, .iload_n 2), (39, .iastore), (40, .aload_n 0), (41, .dup), (42, .getfield 127), (45, .iconst 1), (46, .iadd), (47, .putfield 127), (50, .iinc 2 1), (53, .goto (-46)), (56, .return_)]
def tbMo_orderNearest : xT := [(0, .iconst (-1)), (1, .istore_n 1), (2, .iconst 0), (3, .istore_n 2), (4, .iload_n 2), (5, .aload_n 0), (6, .getfield 127), (9, .if_icmp .ge 104), (12, .iconst (-1)), (13, .istore_n 3), (14, .iconst 0), (15, .istore 4), (17, .iload 4), (19, .aload_n 0), (20, .getfield 127), (23, .if_icmp .ge 58), (26, .aload_n 0), (27, .getfield 48), (30, .iload 4), (32, .iaload), (33, .iconst (-1)), (34, .if_icmp .ne 6), (37, .goto 38), (40, .iload_n 3), (41, .iconst (-1)), (42, .if_icmp .eq 30), (45, .aload_n 0), (46, .iload_n 1), (47, .aload_n 0), (48, .getfield 48), (51, .iload 4), (53, .iaload), (54, .invokevirtual 132), (57, .aload_n 0), (58, .iload_n 1), (59, .aload_n 0), (60, .getfield 48), (63, .iload_n 3), (64, .iaload), (65, .invokevirtual 132), (68, .lcmp), (69, .ifCond .ge 6), (72, .iload 4), (74, .istore_n 3), (75, .iinc 4 1), (78, .goto (-61)), (81, .aload_n 0), (82, .getfield 51), (85, .iload_n 2), (86, .aload_n 0), (87, .getfield 48), (90, .iload_n 3), (91, .iaload), (92, .iastore), (93, .aload_n 0), (94, .getfield 48), (97, .iload_n 3), (98, .iaload), (99, .istore_n 1), (100, .aload_n 0), (101, .getfield 48), (104, .iload_n 3), (105, .iconst (-1)), (106, .iastore), (107, .iinc 2 1), (110, .goto (-106)), (113, .return_)]
def tbMo_way : xT := [(0, .iload_n 1), (1, .iconst (-1)), (2, .if_icmp .ne 23), (5, .lconst 0), (6, .lconst 0), (7, .aload_n 0), (8, .getfield 27), (11, .iload_n 2), (12, .laload), (13, .aload_n 0), (14, .getfield 30), (17, .iload_n 2), (18, .laload), (19, .invokestatic 123), (22, .goto 30), (25, .aload_n 0), (26, .getfield 33), (29, .iload_n 1), (30, .laload), (31, .aload_n 0), (32, .getfield 36), (35, .iload_n 1), (36, .laload), (37, .aload_n 0), (38, .getfield 27), (41, .iload_n 2), (42, .laload), (43, .aload_n 0), (44, .getfield 30), (47, .iload_n 2), (48, .laload), (49, .invokestatic 123), (52, .lreturn)]
def tbMo_wayOf : xT := [(0, .lload_n 0), (1, .lload 4), (3, .lsub), (4, .invokestatic 119), (7, .lstore 8), (9, .lload_n 2), (10, .lload 6), (12, .lsub), (13, .invokestatic 119), (16, .lstore 10), (18, .lload 8), (20, .lload 10), (22, .lcmp), (23, .ifCond .le 8), (26, .lload 8), (28, .goto 5), (31, .lload 10), (33, .lreturn)]
def tbMo_size : xT := [(0, .lload_n 0), (1, .lconst 0), (2, .lcmp), (3, .ifCond .ge 9), (6, .lconst 0), (7, .lload_n 0), (8, .lsub), (9, .goto 4), (12, .lload_n 0), (13, .lreturn)]
def tbMo_orderExactly : xT := [(0, .iconst 1), (1, .aload_n 0), (2, .getfield 127), (5, .ishl), (6, .iconst 1), (7, .isub), (8, .istore_n 1), (9, .iload_n 1), (10, .istore_n 2), (11, .iload_n 2), (12, .ifCond .le 155), (15, .iconst 0), (16, .istore_n 3), (17, .iload_n 3), (18, .aload_n 0), (19, .getfield 127), (22, .if_icmp .ge 139), (25, .iload_n 2), (26, .iload_n 3), (27, .ishr), (28, .iconst 1), (29, .iand), (30, .ifCond .ne 6), (33, .goto 122), (36, .iload_n 2), (37, .iload_n 1), (38, .if_icmp .ne 7), (41, .lconst 0), (42, .goto 6), (45, .ldc2_w 130), (48, .lstore 4), (50, .iconst 0), (51, .istore 6), (53, .iload 6), (55, .aload_n 0), (56, .getfield 127), (59, .if_icmp .ge 83), (62, .iload_n 2), (63, .iload 6), (65, .ishr), (66, .iconst 1), (67, .iand), (68, .iconst 1), (69, .if_icmp .ne 6), (72, .goto 64), (75, .aload_n 0), (76, .aload_n 0), (77, .getfield 48), (80, .iload_n 3), (81, .iaload), (82, .aload_n 0), (83, .getfield 48), (86, .iload 6), (88, .iaload), (89, .invokevirtual 132), (92, .aload_n 0), (93, .getfield 54), (96, .bipush 8), (98, .iload_n 2), (99, .iconst 1), (100, .iload 6), (102, .ishl), (103, .ior), (104, .imul), (105, .iload 6), (107, .iadd), (108, .laload), (109, .ladd), (110, .lstore 7), (112, .lload 4), (114, .lconst 0), (115, .lcmp), (116, .ifCond .lt 11), (119, .lload 7), (121, .lload 4), (123, .lcmp), (124, .ifCond .ge 8), (127, .lload 7), (129, .goto 5), (132, .lload 4), (134, .lstore 4), (136, .iinc 6 1), (139, .goto (-86)), (142, .aload_n 0), (143, .getfield 54), (146, .bipush 8), (148, .iload_n 2), (149, .imul), (150, .iload_n 3), (151, .iadd), (152, .lload 4), (154, .lastore), (155, .iinc 3 1), (158, .goto (-141)), (161, .iinc 2 (-1)), (164, .goto (-153)), (167, .iconst 0), (168, .istore_n 2), (169, .iconst (-1)), (170, .istore_n 3), (171, .iconst 0), (172, .istore 4), (174, .iload 4), (176, .aload_n 0), (177, .getfield 127), (180, .if_icmp .ge 141), (183, .iconst (-1)), (184, .istore 5), (186, .lconst 0), (187, .lstore 6), (189, .iconst 0), (190, .istore 8), (192, .iload 8), (194, .aload_n 0), (195, .getfield 127), (198, .if_icmp .ge 93), (201, .iload_n 2), (202, .iload 8), (204, .ishr), (205, .iconst 1), (206, .iand), (207, .iconst 1), (208, .if_icmp .ne 6), (211, .goto 74), (214, .aload_n 0), (215, .iload_n 3), (216, .iconst (-1)), (217, .if_icmp .ne 7), (220, .iconst (-1)), (221, .goto 9), (224, .aload_n 0), (225, .getfield 48), (228, .iload_n 3), (229, .iaload), (230, .aload_n 0), (231, .getfield 48), (234, .iload 8), (236, .iaload), (237, .invokevirtual 132), (240, .aload_n 0), (241, .getfield 54), (244, .bipush 8), (246, .iload_n 2), (247, .iconst 1), (248, .iload 8), (250, .ishl), (251, .ior), (252, .imul), (253, .iload 8), (255, .iadd), (256, .laload), (257, .ladd), (258, .lstore 9), (260, .iload 5), (262, .iconst (-1)), (263, .if_icmp .eq 14), (266, .lload 9), (268, .lload 6), (270, .lcmp), (271, .ifCond .lt 6), (274, .goto 11), (277, .iload 8), (279, .istore 5), (281, .lload 9), (283, .lstore 6), (285, .iinc 8 1), (288, .goto (-96)), (291, .aload_n 0), (292, .getfield 51), (295, .iload 4), (297, .aload_n 0), (298, .getfield 48), (301, .iload 5), (303, .iaload), (304, .iastore), (305, .iload_n 2), (306, .iconst 1), (307, .iload 5), (309, .ishl), (310, .ior), (311, .istore_n 2), (312, .iload 5), (314, .istore_n 3), (315, .iinc 4 1), (318, .goto (-144)), (321, .return_)]
def tbMo_travel : xT := [(0, .aload_n 0), (1, .aload_n 0), (2, .iload_n 1), (3, .invokevirtual 104), (6, .ifCond .eq 7), (9, .iconst 0), (10, .goto 4), (13, .iconst 1), (14, .putfield 75), (17, .aload_n 0), (18, .getfield 75), (21, .ifCond .eq 5), (24, .lconst 0), (25, .lreturn), (26, .aload_n 0), (27, .iload_n 1), (28, .invokevirtual 146), (31, .lconst 0), (32, .lstore_n 2), (33, .iconst 0), (34, .istore 4), (36, .iload 4), (38, .aload_n 0), (39, .getfield 127), (42, .if_icmp .ge 41), (45, .lload_n 2), (46, .aload_n 0), (47, .iload 4), (49, .ifCond .ne 7), (52, .iconst (-1)), (53, .goto 12), (56, .aload_n 0), (57, .getfield 51), (60, .iload 4), (62, .iconst 1), (63, .isub), (64, .iaload), (65, .aload_n 0), (66, .getfield 51), (69, .iload 4), (71, .iaload), (72, .invokevirtual 132), (75, .ladd), (76, .lstore_n 2), (77, .iinc 4 1), (80, .goto (-44)), (83, .lload_n 2), (84, .lreturn)]
def tbMo_proved : xT := [(0, .aload_n 0), (1, .aload_n 0), (2, .iload_n 1), (3, .invokevirtual 104), (6, .ifCond .eq 7), (9, .iconst 0), (10, .goto 4), (13, .iconst 1), (14, .putfield 75), (17, .aload_n 0), (18, .getfield 75), (21, .ifCond .eq 5), (24, .iconst 0), (25, .ireturn), (26, .aload_n 0), (27, .iload_n 1), (28, .invokevirtual 136), (31, .aload_n 0), (32, .getfield 127), (35, .bipush 8), (37, .if_icmp .gt 7), (40, .iconst 1), (41, .goto 4), (44, .iconst 0), (45, .ireturn)]
def tbMo_write : xT := [(0, .iload_n 1), (1, .ifCond .lt 40), (4, .iload_n 1), (5, .bipush 10), (7, .idiv), (8, .i2l), (9, .invokestatic 108), (12, .ifCond .eq 29), (15, .iload_n 1), (16, .bipush 10), (18, .irem), (19, .i2l), (20, .invokestatic 108), (23, .ifCond .eq 18), (26, .iload_n 1), (27, .bipush 10), (29, .idiv), (30, .iload_n 1), (31, .bipush 10), (33, .irem), (34, .if_icmp .gt 7), (37, .iconst 1), (38, .goto 4), (41, .iconst 0), (42, .istore_n 3), (43, .aload_n 0), (44, .iload_n 3), (45, .ifCond .eq 11), (48, .iload_n 2), (49, .ifCond .lt 7), (52, .iconst 0), (53, .goto 4), (56, .iconst 1), (57, .putfield 75), (60, .aload_n 0), (61, .getfield 75), (64, .ifCond .eq 5), (67, .iconst 0), (68, .ireturn), (69, .aload_n 0), (70, .iload_n 1), (71, .bipush 10), (73, .idiv), (74, .iload_n 1), (75, .bipush 10), (77, .irem), (78, .invokevirtual 171), (81, .iload_n 2), (82, .aload_n 0), (83, .getfield 149), (86, .if_icmp .ge 12), (89, .aload_n 0), (90, .getfield 57), (93, .iload_n 2), (94, .iaload), (95, .goto 4), (98, .iconst (-1)), (99, .ireturn)]
def tbMo_layText : xT := [(0, .aload_n 0), (1, .iconst 0), (2, .putfield 149), (5, .aload_n 0), (6, .bipush 77), (8, .invokevirtual 152), (11, .aload_n 0), (12, .bipush 52), (14, .invokevirtual 152), (17, .aload_n 0), (18, .bipush 56), (20, .invokevirtual 152), (23, .aload_n 0), (24, .bipush 10), (26, .invokevirtual 152), (29, .aload_n 0), (30, .bipush 76), (32, .invokevirtual 152), (35, .aload_n 0), (36, .iload_n 1), (37, .i2l), (38, .invokevirtual 157), (41, .aload_n 0), (42, .bipush 44), (44, .invokevirtual 152), (47, .aload_n 0), (48, .iload_n 2), (49, .i2l), (50, .invokevirtual 157), (53, .aload_n 0), (54, .bipush 10), (56, .invokevirtual 152), (59, .iconst 0), (60, .istore_n 3), (61, .iload_n 3), (62, .aload_n 0), (63, .getfield 7), (66, .iconst 0), (67, .iaload), (68, .if_icmp .ge 56), (71, .aload_n 0), (72, .iload_n 3), (73, .invokevirtual 165), (76, .aload_n 0), (77, .bipush 67), (79, .invokevirtual 152), (82, .aload_n 0), (83, .aload_n 0), (84, .getfield 13), (87, .iload_n 3), (88, .laload), (89, .invokevirtual 157), (92, .aload_n 0), (93, .aload_n 0), (94, .getfield 17), (97, .iload_n 3), (98, .baload), (99, .ifCond .eq 8), (102, .bipush 80), (104, .goto 5), (107, .bipush 78), (109, .invokevirtual 152), (112, .aload_n 0), (113, .bipush 10), (115, .invokevirtual 152), (118, .iinc 3 1), (121, .goto (-60)), (124, .aload_n 0), (125, .bipush 37), (127, .invokevirtual 152), (130, .aload_n 0), (131, .bipush 10), (133, .invokevirtual 152), (136, .iconst 0), (137, .istore_n 3), (138, .iload_n 3), (139, .aload_n 0), (140, .getfield 7), (143, .iconst 0), (144, .iaload), (145, .if_icmp .ge 94), (148, .aload_n 0), (149, .iload_n 3), (150, .invokevirtual 146), (153, .iconst 1), (154, .istore 4), (156, .iconst 0), (157, .istore 5), (159, .iload 5), (161, .aload_n 0), (162, .getfield 127), (165, .if_icmp .ge 68), (168, .aload_n 0), (169, .getfield 51), (172, .iload 5), (174, .iaload), (175, .istore 6), (177, .aload_n 0), (178, .getfield 39), (181, .iload 6), (183, .iaload), (184, .iload_n 1), (185, .if_icmp .ne 42), (188, .aload_n 0), (189, .getfield 42), (192, .iload 6), (194, .iaload), (195, .iload_n 2), (196, .if_icmp .eq 6), (199, .goto 28), (202, .iload 4), (204, .ifCond .eq 14), (207, .aload_n 0), (208, .iload_n 3), (209, .invokevirtual 165), (212, .aload_n 0), (213, .bipush 10), (215, .invokevirtual 152), (218, .iconst 0), (219, .istore 4), (221, .aload_n 0), (222, .iload 6), (224, .invokevirtual 168), (227, .iinc 5 1), (230, .goto (-71)), (233, .iinc 3 1), (236, .goto (-98)), (239, .aload_n 0), (240, .bipush 77), (242, .invokevirtual 152), (245, .aload_n 0), (246, .bipush 51), (248, .invokevirtual 152), (251, .aload_n 0), (252, .bipush 48), (254, .invokevirtual 152), (257, .aload_n 0), (258, .bipush 10), (260, .invokevirtual 152), (263, .return_)]
def tbMo_say : xT := [(0, .aload_n 0), (1, .getfield 57), (4, .aload_n 0), (5, .getfield 149), (8, .iload_n 1), (9, .iastore), (10, .aload_n 0), (11, .dup), (12, .getfield 149), (15, .iconst 1), (16, .iadd), (17, .putfield 149), (20, .return_)]
def tbMo_sayNumber : xT := [(0, .lload_n 1), (1, .lconst 0), (2, .lcmp), (3, .ifCond .ge 9), (6, .aload_n 0), (7, .bipush 45), (9, .invokevirtual 152), (12, .lload_n 1), (13, .invokestatic 119), (16, .lstore_n 3), (17, .lconst 1), (18, .lstore 5), (20, .lload_n 3), (21, .lload 5), (23, .ldiv), (24, .ldc2_w 155), (27, .lcmp), (28, .ifCond .lt 14), (31, .ldc2_w 155), (34, .lload 5), (36, .lmul), (37, .lstore 5), (39, .goto (-19)), (42, .lload 5), (44, .lconst 0), (45, .lcmp), (46, .ifCond .le 30), (49, .aload_n 0), (50, .lload_n 3), (51, .lload 5), (53, .ldiv), (54, .ldc2_w 155), (57, .lrem), (58, .l2i), (59, .bipush 48), (61, .iadd), (62, .invokevirtual 152), (65, .lload 5), (67, .ldc2_w 155), (70, .ldiv), (71, .lstore 5), (73, .goto (-31)), (76, .return_)]
def tbMo_sayTool : xT := [(0, .aload_n 0), (1, .bipush 84), (3, .invokevirtual 152), (6, .aload_n 0), (7, .iload_n 1), (8, .i2l), (9, .invokevirtual 157), (12, .return_)]
def tbMo_sayHit : xT := [(0, .aload_n 0), (1, .aload_n 0), (2, .getfield 27), (5, .iload_n 1), (6, .laload), (7, .aload_n 0), (8, .getfield 30), (11, .iload_n 1), (12, .laload), (13, .invokevirtual 161), (16, .aload_n 0), (17, .getfield 45), (20, .iload_n 1), (21, .baload), (22, .ifCond .eq 37), (25, .aload_n 0), (26, .bipush 71), (28, .invokevirtual 152), (31, .aload_n 0), (32, .bipush 56), (34, .invokevirtual 152), (37, .aload_n 0), (38, .bipush 53), (40, .invokevirtual 152), (43, .aload_n 0), (44, .aload_n 0), (45, .getfield 33), (48, .iload_n 1), (49, .laload), (50, .aload_n 0), (51, .getfield 36), (54, .iload_n 1), (55, .laload), (56, .invokevirtual 161), (59, .aload_n 0), (60, .bipush 10), (62, .invokevirtual 152), (65, .return_)]
def tbMo_sayPlace : xT := [(0, .aload_n 0), (1, .bipush 88), (3, .invokevirtual 152), (6, .aload_n 0), (7, .lload_n 1), (8, .invokevirtual 157), (11, .aload_n 0), (12, .bipush 89), (14, .invokevirtual 152), (17, .aload_n 0), (18, .lload_n 3), (19, .invokevirtual 157), (22, .return_)]
def tbMo_unit : xT := [(0, .aload_n 0), (1, .iconst 0), (2, .putfield 75), (5, .iload_n 1), (6, .bipush 10), (8, .if_icmp .eq 15), (11, .iload_n 1), (12, .bipush 32), (14, .if_icmp .lt 19), (17, .iload_n 1), (18, .bipush 126), (20, .if_icmp .gt 13), (23, .aload_n 0), (24, .getfield 79), (27, .sipush 2000), (30, .if_icmp .ne 5), (33, .iconst 0), (34, .ireturn), (35, .aload_n 0), (36, .getfield 60), (39, .aload_n 0), (40, .getfield 79), (43, .iload_n 1), (44, .iastore), (45, .aload_n 0), (46, .dup), (47, .getfield 79), (50, .iconst 1), (51, .iadd), (52, .putfield 79), (55, .iconst 1), (56, .ireturn)]
def tbMo_read : xT := [(0, .aload_n 0), (1, .iconst 0), (2, .putfield 75), (5, .aload_n 0), (6, .iconst 0), (7, .putfield 175), (10, .aload_n 0), (11, .iconst (-1)), (12, .putfield 178), (15, .aload_n 0), (16, .iconst 0), (17, .putfield 227), (20, .aload_n 0), (21, .iconst 0), (22, .putfield 212), (25, .aload_n 0), (26, .iconst (-1)), (27, .putfield 233), (30, .aload_n 0), (31, .getfield 7), (34, .iconst 1), (35, .iconst 0), (36, .iastore), (37, .aload_n 0), (38, .getfield 21), (41, .iconst 1), (42, .iconst 0), (43, .iastore), (44, .aload_n 0), (45, .getfield 178), (48, .iconst (-1)), (49, .if_icmp .ne 21), (52, .aload_n 0), (53, .getfield 175), (56, .aload_n 0), (57, .getfield 79), (60, .if_icmp .ge 10), (63, .aload_n 0), (64, .invokevirtual 245), (67, .goto (-23)), (70, .aload_n 0), (71, .getfield 178), (74, .iconst (-1)), (75, .if_icmp .ne 19), (78, .aload_n 0), (79, .getfield 227), (82, .iconst 3), (83, .if_icmp .ge 11), (86, .aload_n 0), (87, .aload_n 0), (88, .getfield 79), (91, .putfield 178), (94, .aload_n 0), (95, .getfield 178), (98, .iconst (-1)), (99, .if_icmp .eq 10), (102, .iconst (-1)), (103, .aload_n 0), (104, .getfield 178), (107, .isub), (108, .ireturn), (109, .aload_n 0), (110, .getfield 7), (113, .iconst 0), (114, .aload_n 0), (115, .getfield 7), (118, .iconst 1), (119, .iaload), (120, .iastore), (121, .iconst 0), (122, .istore_n 1), (123, .iload_n 1), (124, .bipush 10), (126, .if_icmp .ge 39), (129, .aload_n 0), (130, .getfield 13), (133, .iload_n 1), (134, .aload_n 0), (135, .getfield 13), (138, .bipush 10), (140, .iload_n 1), (141, .iadd), (142, .laload), (143, .lastore), (144, .aload_n 0), (145, .getfield 17), (148, .iload_n 1), (149, .aload_n 0), (150, .getfield 17), (153, .bipush 10), (155, .iload_n 1), (156, .iadd), (157, .baload), (158, .bastore), (159, .iinc 1 1), (162, .goto (-39)), (165, .aload_n 0), (166, .getfield 21), (169, .iconst 0), (170, .iconst 0), (171, .iastore), (172, .bipush 60), (174, .istore_n 1), (175, .iload_n 1), (176, .bipush 60), (178, .aload_n 0), (179, .getfield 21), (182, .iconst 1), (183, .iaload), (184, .iadd), (185, .if_icmp .ge 63), (188, .aload_n 0), (189, .iconst 0), (190, .aload_n 0), (191, .getfield 24), (194, .iload_n 1), (195, .iaload), (196, .aload_n 0), (197, .getfield 27), (200, .iload_n 1), (201, .laload), (202, .aload_n 0), (203, .getfield 30), (206, .iload_n 1), (207, .laload), (208, .aload_n 0), (209, .getfield 33), (212, .iload_n 1), (213, .laload), (214, .aload_n 0), (215, .getfield 36), (218, .iload_n 1), (219, .laload), (220, .aload_n 0), (221, .getfield 39), (224, .iload_n 1), (225, .iaload), (226, .aload_n 0), (227, .getfield 42), (230, .iload_n 1), (231, .iaload), (232, .aload_n 0), (233, .getfield 45), (236, .iload_n 1), (237, .baload), (238, .invokevirtual 115), (241, .pop), (242, .iinc 1 1), (245, .goto (-70)), (248, .aload_n 0), (249, .iconst 0), (250, .putfield 79), (253, .aload_n 0), (254, .getfield 21), (257, .iconst 0), (258, .iaload), (259, .ireturn)]
def tbMo_readLine : xT := [(0, .aload_n 0), (1, .aload_n 0), (2, .getfield 175), (5, .putfield 202), (8, .aload_n 0), (9, .iconst 1), (10, .putfield 198), (13, .aload_n 0), (14, .getfield 227), (17, .ifCond .ne 36), (20, .aload_n 0), (21, .bipush 77), (23, .invokevirtual 195), (26, .aload_n 0), (27, .bipush 52), (29, .invokevirtual 195), (32, .aload_n 0), (33, .bipush 56), (35, .invokevirtual 195), (38, .aload_n 0), (39, .invokevirtual 209), (42, .ifCond .eq 49), (45, .aload_n 0), (46, .iconst 1), (47, .putfield 227), (50, .goto 41), (53, .aload_n 0), (54, .getfield 227), (57, .iconst 1), (58, .if_icmp .ne 10), (61, .aload_n 0), (62, .invokevirtual 239), (65, .goto 26), (68, .aload_n 0), (69, .getfield 227), (72, .iconst 2), (73, .if_icmp .ne 10), (76, .aload_n 0), (77, .invokevirtual 242), (80, .goto 11), (83, .aload_n 0), (84, .aload_n 0), (85, .getfield 175), (88, .putfield 178), (91, .return_)]
def tbMo_expect : xT := [(0, .aload_n 0), (1, .getfield 178), (4, .iconst (-1)), (5, .if_icmp .eq 4), (8, .return_), (9, .aload_n 0), (10, .invokevirtual 181), (13, .iload_n 1), (14, .if_icmp .ne 16), (17, .aload_n 0), (18, .dup), (19, .getfield 175), (22, .iconst 1), (23, .iadd), (24, .putfield 175), (27, .goto 11), (30, .aload_n 0), (31, .aload_n 0), (32, .getfield 175), (35, .putfield 178), (38, .return_)]
def tbMo_now : xT := [(0, .aload_n 0), (1, .getfield 175), (4, .aload_n 0), (5, .getfield 79), (8, .if_icmp .ge 15), (11, .aload_n 0), (12, .getfield 60), (15, .aload_n 0), (16, .getfield 175), (19, .iaload), (20, .goto 4), (23, .iconst (-1)), (24, .ireturn)]
def tbMo_endLine : xT := [(0, .aload_n 0), (1, .bipush 10), (3, .invokevirtual 195), (6, .aload_n 0), (7, .getfield 178), (10, .iconst (-1)), (11, .if_icmp .ne 18), (14, .aload_n 0), (15, .getfield 198), (18, .ifCond .ne 11), (21, .aload_n 0), (22, .aload_n 0), (23, .getfield 202), (26, .putfield 178), (29, .aload_n 0), (30, .getfield 178), (33, .iconst (-1)), (34, .if_icmp .ne 7), (37, .iconst 1), (38, .goto 4), (41, .iconst 0), (42, .ireturn)]
def tbMo_readFirst : xT := [(0, .aload_n 0), (1, .invokevirtual 181), (4, .istore_n 1), (5, .iload_n 1), (6, .bipush 76), (8, .if_icmp .ne 19), (11, .aload_n 0), (12, .getfield 7), (15, .iconst 1), (16, .iaload), (17, .ifCond .ne 10), (20, .aload_n 0), (21, .invokevirtual 221), (24, .goto 69), (27, .iload_n 1), (28, .bipush 84), (30, .if_icmp .ne 17), (33, .aload_n 0), (34, .getfield 212), (37, .ifCond .eq 10), (40, .aload_n 0), (41, .invokevirtual 224), (44, .goto 49), (47, .iload_n 1), (48, .bipush 37), (50, .if_icmp .ne 35), (53, .aload_n 0), (54, .getfield 212), (57, .ifCond .eq 28), (60, .aload_n 0), (61, .dup), (62, .getfield 175), (65, .iconst 1), (66, .iadd), (67, .putfield 175), (70, .aload_n 0), (71, .invokevirtual 209), (74, .ifCond .eq 19), (77, .aload_n 0), (78, .iconst 2), (79, .putfield 227), (82, .goto 11), (85, .aload_n 0), (86, .aload_n 0), (87, .getfield 175), (90, .putfield 178), (93, .return_)]
def tbMo_readLayers : xT := [(0, .aload_n 0), (1, .dup), (2, .getfield 175), (5, .iconst 1), (6, .iadd), (7, .putfield 175), (10, .aload_n 0), (11, .invokevirtual 185), (14, .lstore_n 1), (15, .aload_n 0), (16, .bipush 44), (18, .invokevirtual 195), (21, .aload_n 0), (22, .invokevirtual 185), (25, .lstore_n 3), (26, .aload_n 0), (27, .lload_n 1), (28, .invokestatic 108), (31, .ifCond .eq 20), (34, .lload_n 3), (35, .invokestatic 108), (38, .ifCond .eq 13), (41, .lload_n 1), (42, .lload_n 3), (43, .lcmp), (44, .ifCond .gt 7), (47, .iconst 1), (48, .goto 4), (51, .iconst 0), (52, .invokevirtual 205), (55, .aload_n 0), (56, .invokevirtual 209), (59, .ifCond .ne 4), (62, .return_), (63, .aload_n 0), (64, .iconst 1), (65, .putfield 212), (68, .aload_n 0), (69, .lload_n 1), (70, .l2i), (71, .putfield 215), (74, .aload_n 0), (75, .lload_n 3), (76, .l2i), (77, .putfield 218), (80, .return_)]
def tbMo_whole : xT := [(0, .lconst 0), (1, .lstore_n 1), (2, .iconst 0), (3, .istore_n 3), (4, .aload_n 0), (5, .getfield 178), (8, .iconst (-1)), (9, .if_icmp .ne 48), (12, .iload_n 3), (13, .bipush 7), (15, .if_icmp .ge 42), (18, .aload_n 0), (19, .invokevirtual 189), (22, .ifCond .eq 35), (25, .ldc2_w 155), (28, .lload_n 1), (29, .lmul), (30, .aload_n 0), (31, .invokevirtual 181), (34, .i2l), (35, .ladd), (36, .ldc2_w 193), (39, .lsub), (40, .lstore_n 1), (41, .iinc 3 1), (44, .aload_n 0), (45, .dup), (46, .getfield 175), (49, .iconst 1), (50, .iadd), (51, .putfield 175), (54, .goto (-50)), (57, .aload_n 0), (58, .getfield 178), (61, .iconst (-1)), (62, .if_icmp .ne 22), (65, .iload_n 3), (66, .ifCond .eq 10), (69, .aload_n 0), (70, .invokevirtual 189), (73, .ifCond .eq 11), (76, .aload_n 0), (77, .aload_n 0), (78, .getfield 175), (81, .putfield 178), (84, .lload_n 1), (85, .lreturn)]
def tbMo_isDigit : xT := [(0, .aload_n 0), (1, .invokevirtual 181), (4, .bipush 48), (6, .if_icmp .lt 16), (9, .aload_n 0), (10, .invokevirtual 181), (13, .bipush 57), (15, .if_icmp .gt 7), (18, .iconst 1), (19, .goto 4), (22, .iconst 0), (23, .ireturn)]
def tbMo_must : xT := [(0, .aload_n 0), (1, .aload_n 0), (2, .getfield 198), (5, .ifCond .eq 11), (8, .iload_n 1), (9, .ifCond .eq 7), (12, .iconst 1), (13, .goto 4), (16, .iconst 0), (17, .putfield 198), (20, .return_)]
def tbMo_readTool : xT := [(0, .aload_n 0), (1, .dup), (2, .getfield 175), (5, .iconst 1), (6, .iadd), (7, .putfield 175), (10, .aload_n 0), (11, .invokevirtual 185), (14, .lstore_n 1), (15, .aload_n 0), (16, .bipush 67), (18, .invokevirtual 195), (21, .aload_n 0), (22, .invokevirtual 185), (25, .lstore_n 3), (26, .aload_n 0), (27, .invokevirtual 181), (30, .bipush 80), (32, .if_icmp .ne 7), (35, .iconst 1), (36, .goto 4), (39, .iconst 0), (40, .istore 5), (42, .aload_n 0), (43, .getfield 178), (46, .iconst (-1)), (47, .if_icmp .ne 30), (50, .iload 5), (52, .ifCond .ne 12), (55, .aload_n 0), (56, .invokevirtual 181), (59, .bipush 78), (61, .if_icmp .ne 16), (64, .aload_n 0), (65, .dup), (66, .getfield 175), (69, .iconst 1), (70, .iadd), (71, .putfield 175), (74, .goto 19), (77, .aload_n 0), (78, .getfield 178), (81, .iconst (-1)), (82, .if_icmp .ne 11), (85, .aload_n 0), (86, .aload_n 0), (87, .getfield 175), (90, .putfield 178), (93, .aload_n 0), (94, .lload_n 1), (95, .aload_n 0), (96, .getfield 7), (99, .iconst 1), (100, .iaload), (101, .i2l), (102, .lcmp), (103, .ifCond .ne 22), (106, .lload_n 1), (107, .ldc2_w 155), (110, .lcmp), (111, .ifCond .ge 14), (114, .lload_n 3), (115, .invokestatic 96), (118, .ifCond .eq 7), (121, .iconst 1), (122, .goto 4), (125, .iconst 0), (126, .invokevirtual 205), (129, .aload_n 0), (130, .invokevirtual 209), (133, .ifCond .eq 12), (136, .aload_n 0), (137, .iconst 1), (138, .lload_n 3), (139, .iload 5), (141, .invokevirtual 100), (144, .pop), (145, .return_)]
def tbMo_readSecond : xT := [(0, .aload_n 0), (1, .invokevirtual 181), (4, .istore_n 1), (5, .iload_n 1), (6, .bipush 84), (8, .if_icmp .ne 55), (11, .aload_n 0), (12, .dup), (13, .getfield 175), (16, .iconst 1), (17, .iadd), (18, .putfield 175), (21, .aload_n 0), (22, .invokevirtual 185), (25, .lstore_n 2), (26, .aload_n 0), (27, .lload_n 2), (28, .aload_n 0), (29, .getfield 7), (32, .iconst 1), (33, .iaload), (34, .i2l), (35, .lcmp), (36, .ifCond .ge 7), (39, .iconst 1), (40, .goto 4), (43, .iconst 0), (44, .invokevirtual 205), (47, .aload_n 0), (48, .invokevirtual 209), (51, .ifCond .eq 9), (54, .aload_n 0), (55, .lload_n 2), (56, .l2i), (57, .putfield 233), (60, .goto 54), (63, .iload_n 1), (64, .bipush 88), (66, .if_icmp .ne 18), (69, .aload_n 0), (70, .getfield 233), (73, .iconst (-1)), (74, .if_icmp .eq 10), (77, .aload_n 0), (78, .invokevirtual 236), (81, .goto 33), (84, .aload_n 0), (85, .bipush 77), (87, .invokevirtual 195), (90, .aload_n 0), (91, .bipush 51), (93, .invokevirtual 195), (96, .aload_n 0), (97, .bipush 48), (99, .invokevirtual 195), (102, .aload_n 0), (103, .invokevirtual 209), (106, .ifCond .eq 8), (109, .aload_n 0), (110, .iconst 3), (111, .putfield 227), (114, .return_)]
def tbMo_readHit : xT := [(0, .aload_n 0), (1, .dup), (2, .getfield 175), (5, .iconst 1), (6, .iadd), (7, .putfield 175), (10, .aload_n 0), (11, .invokevirtual 230), (14, .lstore_n 1), (15, .aload_n 0), (16, .bipush 89), (18, .invokevirtual 195), (21, .aload_n 0), (22, .invokevirtual 230), (25, .lstore_n 3), (26, .aload_n 0), (27, .getfield 178), (30, .iconst (-1)), (31, .if_icmp .ne 16), (34, .aload_n 0), (35, .invokevirtual 181), (38, .bipush 71), (40, .if_icmp .ne 7), (43, .iconst 1), (44, .goto 4), (47, .iconst 0), (48, .istore 5), (50, .lload_n 1), (51, .lstore 6), (53, .lload_n 3), (54, .lstore 8), (56, .iload 5), (58, .ifCond .eq 72), (61, .aload_n 0), (62, .dup), (63, .getfield 175), (66, .iconst 1), (67, .iadd), (68, .putfield 175), (71, .aload_n 0), (72, .bipush 56), (74, .invokevirtual 195), (77, .aload_n 0), (78, .bipush 53), (80, .invokevirtual 195), (83, .aload_n 0), (84, .bipush 88), (86, .invokevirtual 195), (89, .aload_n 0), (90, .invokevirtual 230), (93, .lstore 6), (95, .aload_n 0), (96, .bipush 89), (98, .invokevirtual 195), (101, .aload_n 0), (102, .invokevirtual 230), (105, .lstore 8), (107, .aload_n 0), (108, .lload_n 1), (109, .lload 6), (111, .lcmp), (112, .ifCond .ne 10), (115, .lload_n 3), (116, .lload 8), (118, .lcmp), (119, .ifCond .eq 7), (122, .iconst 1), (123, .goto 4), (126, .iconst 0), (127, .invokevirtual 205), (130, .aload_n 0), (131, .lload_n 1), (132, .lload_n 3), (133, .invokestatic 111), (136, .ifCond .eq 28), (139, .lload 6), (141, .lload 8), (143, .invokestatic 111), (146, .ifCond .eq 18), (149, .aload_n 0), (150, .getfield 21), (153, .iconst 1), (154, .iaload), (155, .bipush 60), (157, .if_icmp .ge 7), (160, .iconst 1), (161, .goto 4), (164, .iconst 0), (165, .invokevirtual 205), (168, .aload_n 0), (169, .invokevirtual 209), (172, .ifCond .eq 48), (175, .aload_n 0), (176, .iconst 1), (177, .aload_n 0), (178, .getfield 233), (181, .lload_n 1), (182, .lload_n 3), (183, .lload 6), (185, .lload 8), (187, .iload 5), (189, .ifCond .eq 7), (192, .iconst 0), (193, .goto 7), (196, .aload_n 0), (197, .getfield 215), (200, .iload 5), (202, .ifCond .eq 8), (205, .bipush 7), (207, .goto 7), (210, .aload_n 0), (211, .getfield 218), (214, .iload 5), (216, .invokevirtual 115), (219, .pop), (220, .return_)]
def tbMo_number : xT := [(0, .aload_n 0), (1, .invokevirtual 181), (4, .bipush 45), (6, .if_icmp .ne 7), (9, .iconst 1), (10, .goto 4), (13, .iconst 0), (14, .istore_n 1), (15, .iload_n 1), (16, .ifCond .eq 21), (19, .aload_n 0), (20, .getfield 178), (23, .iconst (-1)), (24, .if_icmp .ne 13), (27, .aload_n 0), (28, .dup), (29, .getfield 175), (32, .iconst 1), (33, .iadd), (34, .putfield 175), (37, .aload_n 0), (38, .invokevirtual 185), (41, .lstore_n 2), (42, .iload_n 1), (43, .ifCond .eq 9), (46, .lconst 0), (47, .lload_n 2), (48, .lsub), (49, .goto 4), (52, .lload_n 2), (53, .lreturn)]
def tbMo_file : xT := [(0, .aload_n 0), (1, .iload_n 1), (2, .i2l), (3, .invokestatic 108), (6, .ifCond .eq 7), (9, .iconst 0), (10, .goto 4), (13, .iconst 1), (14, .putfield 75), (17, .aload_n 0), (18, .getfield 75), (21, .ifCond .eq 5), (24, .iconst 0), (25, .ireturn), (26, .aload_n 0), (27, .iload_n 1), (28, .invokevirtual 248), (31, .iconst (-1)), (32, .if_icmp .eq 5), (35, .iconst (-1)), (36, .ireturn), (37, .aload_n 0), (38, .getfield 63), (41, .aload_n 0), (42, .getfield 82), (45, .iload_n 1), (46, .iastore), (47, .aload_n 0), (48, .getfield 66), (51, .aload_n 0), (52, .getfield 82), (55, .iconst 0), (56, .iastore), (57, .aload_n 0), (58, .dup), (59, .getfield 82), (62, .iconst 1), (63, .iadd), (64, .putfield 82), (67, .aload_n 0), (68, .getfield 82), (71, .iconst 1), (72, .isub), (73, .ireturn)]
def tbMo_fileWith : xT := [(0, .iconst 0), (1, .istore_n 2), (2, .iload_n 2), (3, .aload_n 0), (4, .getfield 82), (7, .if_icmp .ge 21), (10, .aload_n 0), (11, .getfield 63), (14, .iload_n 2), (15, .iaload), (16, .iload_n 1), (17, .if_icmp .ne 5), (20, .iload_n 2), (21, .ireturn), (22, .iinc 2 1), (25, .goto (-23)), (28, .iconst (-1)), (29, .ireturn)]
def tbMo_byteOf : xT := [(0, .aload_n 0), (1, .aload_n 0), (2, .iload_n 1), (3, .invokevirtual 252), (6, .ifCond .ne 7), (9, .iconst 1), (10, .goto 15), (13, .iload_n 2), (14, .invokestatic 255), (17, .ifCond .eq 7), (20, .iconst 0), (21, .goto 4), (24, .iconst 2), (25, .putfield 75), (28, .aload_n 0), (29, .getfield 75), (32, .ifCond .ne 15), (35, .aload_n 0), (36, .getfield 66), (39, .iload_n 1), (40, .iaload), (41, .sipush 300), (44, .if_icmp .ne 5), (47, .iconst 0), (48, .ireturn), (49, .aload_n 0), (50, .getfield 69), (53, .sipush 300), (56, .iload_n 1), (57, .imul), (58, .aload_n 0), (59, .getfield 66), (62, .iload_n 1), (63, .iaload), (64, .iadd), (65, .iload_n 2), (66, .iastore), (67, .aload_n 0), (68, .getfield 66), (71, .iload_n 1), (72, .dup2), (73, .iaload), (74, .iconst 1), (75, .iadd), (76, .iastore), (77, .iconst 1), (78, .ireturn)]
def tbMo_isFile : xT := [(0, .iload_n 1), (1, .ifCond .lt 15), (4, .iload_n 1), (5, .aload_n 0), (6, .getfield 82), (9, .if_icmp .ge 7), (12, .iconst 1), (13, .goto 4), (16, .iconst 0), (17, .ireturn)]
def tbMo_isByte : xT := [(0, .iload_n 0), (1, .ifCond .lt 14), (4, .iload_n 0), (5, .sipush 256), (8, .if_icmp .ge 7), (11, .iconst 1), (12, .goto 4), (15, .iconst 0), (16, .ireturn)]
def tbMo_sum : xT := [(0, .aload_n 0), (1, .aload_n 0), (2, .iload_n 1), (3, .invokevirtual 252), (6, .ifCond .eq 7), (9, .iconst 0), (10, .goto 4), (13, .iconst 1), (14, .putfield 75), (17, .aload_n 0), (18, .getfield 75), (21, .ifCond .ne 12), (24, .aload_n 0), (25, .iload_n 1), (26, .invokevirtual 259), (29, .i2l), (30, .goto 4), (33, .lconst 0), (34, .lreturn)]
def tbMo_sumOf : xT := [(0, .iconst 0), (1, .istore_n 2), (2, .iconst 0), (3, .istore_n 3), (4, .iload_n 3), (5, .aload_n 0), (6, .getfield 66), (9, .iload_n 1), (10, .iaload), (11, .if_icmp .ge 32), (14, .iload_n 2), (15, .iload_n 3), (16, .iconst 1), (17, .iadd), (18, .aload_n 0), (19, .getfield 69), (22, .sipush 300), (25, .iload_n 1), (26, .imul), (27, .iload_n 3), (28, .iadd), (29, .iaload), (30, .imul), (31, .iadd), (32, .ldc_w 258), (35, .irem), (36, .istore_n 2), (37, .iinc 3 1), (40, .goto (-36)), (43, .iload_n 2), (44, .ireturn)]
def tbMo_archive : xT := [(0, .aload_n 0), (1, .iload_n 1), (2, .ifCond .ge 7), (5, .iconst 1), (6, .goto 4), (9, .iconst 0), (10, .putfield 75), (13, .aload_n 0), (14, .getfield 75), (17, .ifCond .eq 5), (20, .iconst 0), (21, .ireturn), (22, .aload_n 0), (23, .iload_n 1), (24, .putfield 265), (27, .aload_n 0), (28, .iconst 0), (29, .putfield 262), (32, .aload_n 0), (33, .iconst (-1)), (34, .putfield 268), (37, .aload_n 0), (38, .aload_n 0), (39, .getfield 82), (42, .invokevirtual 271), (45, .iconst 0), (46, .istore_n 2), (47, .iload_n 2), (48, .aload_n 0), (49, .getfield 82), (52, .if_icmp .ge 107), (55, .aload_n 0), (56, .aload_n 0), (57, .getfield 63), (60, .iload_n 2), (61, .iaload), (62, .invokevirtual 271), (65, .aload_n 0), (66, .aload_n 0), (67, .getfield 66), (70, .iload_n 2), (71, .iaload), (72, .sipush 256), (75, .irem), (76, .invokevirtual 271), (79, .aload_n 0), (80, .aload_n 0), (81, .getfield 66), (84, .iload_n 2), (85, .iaload), (86, .sipush 256), (89, .idiv), (90, .invokevirtual 271), (93, .iconst 0), (94, .istore_n 3), (95, .iload_n 3), (96, .aload_n 0), (97, .getfield 66), (100, .iload_n 2), (101, .iaload), (102, .if_icmp .ge 25), (105, .aload_n 0), (106, .aload_n 0), (107, .getfield 69), (110, .sipush 300), (113, .iload_n 2), (114, .imul), (115, .iload_n 3), (116, .iadd), (117, .iaload), (118, .invokevirtual 271), (121, .iinc 3 1), (124, .goto (-29)), (127, .aload_n 0), (128, .aload_n 0), (129, .iload_n 2), (130, .invokevirtual 259), (133, .sipush 256), (136, .irem), (137, .invokevirtual 271), (140, .aload_n 0), (141, .aload_n 0), (142, .iload_n 2), (143, .invokevirtual 259), (146, .sipush 256), (149, .idiv), (150, .invokevirtual 271), (153, .iinc 2 1), (156, .goto (-109)), (159, .aload_n 0), (160, .getfield 268), (163, .ireturn)]
def tbMo_put : xT := [(0, .aload_n 0), (1, .getfield 262), (4, .aload_n 0), (5, .getfield 265), (8, .if_icmp .ne 8), (11, .aload_n 0), (12, .iload_n 1), (13, .putfield 268), (16, .aload_n 0), (17, .dup), (18, .getfield 262), (21, .iconst 1), (22, .iadd), (23, .putfield 262), (26, .return_)]
def tbMo_feed : xT := [(0, .aload_n 0), (1, .iconst 0), (2, .putfield 75), (5, .iload_n 1), (6, .invokestatic 255), (9, .ifCond .eq 13), (12, .aload_n 0), (13, .getfield 85), (16, .sipush 2600), (19, .if_icmp .ne 5), (22, .iconst 0), (23, .ireturn), (24, .aload_n 0), (25, .getfield 72), (28, .aload_n 0), (29, .getfield 85), (32, .iload_n 1), (33, .iastore), (34, .aload_n 0), (35, .dup), (36, .getfield 85), (39, .iconst 1), (40, .iadd), (41, .putfield 85), (44, .iconst 1), (45, .ireturn)]
def tbMo_open : xT := [(0, .aload_n 0), (1, .iconst 0), (2, .putfield 75), (5, .aload_n 0), (6, .getfield 85), (9, .ifCond .le 19), (12, .aload_n 0), (13, .iconst 0), (14, .invokevirtual 274), (17, .aload_n 0), (18, .getfield 85), (21, .if_icmp .ne 7), (24, .iconst 1), (25, .goto 4), (28, .iconst 0), (29, .istore_n 1), (30, .iload_n 1), (31, .ifCond .eq 19), (34, .aload_n 0), (35, .aload_n 0), (36, .getfield 72), (39, .iconst 0), (40, .iaload), (41, .putfield 82), (44, .aload_n 0), (45, .iconst 1), (46, .invokevirtual 274), (49, .pop), (50, .aload_n 0), (51, .iconst 0), (52, .putfield 85), (55, .iload_n 1), (56, .ifCond .eq 10), (59, .aload_n 0), (60, .getfield 82), (63, .goto 4), (66, .iconst (-1)), (67, .ireturn)]
def tbMo_walk : xT := [(0, .aload_n 0), (1, .getfield 85), (4, .ifCond .eq 14), (7, .aload_n 0), (8, .getfield 72), (11, .iconst 0), (12, .iaload), (13, .bipush 8), (15, .if_icmp .le 5), (18, .iconst (-1)), (19, .ireturn), (20, .iconst 1), (21, .istore_n 2), (22, .iconst 0), (23, .istore_n 3), (24, .iconst 0), (25, .istore 4), (27, .iload 4), (29, .aload_n 0), (30, .getfield 72), (33, .iconst 0), (34, .iaload), (35, .if_icmp .ge 243), (38, .iload_n 2), (39, .iconst 3), (40, .iadd), (41, .aload_n 0), (42, .getfield 85), (45, .if_icmp .le 5), (48, .iconst (-1)), (49, .ireturn), (50, .aload_n 0), (51, .getfield 72), (54, .iload_n 2), (55, .iaload), (56, .istore 5), (58, .aload_n 0), (59, .getfield 72), (62, .iload_n 2), (63, .iconst 1), (64, .iadd), (65, .iaload), (66, .sipush 256), (69, .aload_n 0), (70, .getfield 72), (73, .iload_n 2), (74, .iconst 2), (75, .iadd), (76, .iaload), (77, .imul), (78, .iadd), (79, .istore 6), (81, .iinc 2 3), (84, .iload 5), (86, .bipush 7), (88, .if_icmp .gt 34), (91, .iload_n 3), (92, .iload 5), (94, .ishr), (95, .iconst 1), (96, .iand), (97, .iconst 1), (98, .if_icmp .eq 24), (101, .iload 6), (103, .sipush 300), (106, .if_icmp .gt 16), (109, .iload_n 2), (110, .iload 6), (112, .iadd), (113, .iconst 2), (114, .iadd), (115, .aload_n 0), (116, .getfield 85), (119, .if_icmp .le 5), (122, .iconst (-1)), (123, .ireturn), (124, .iload_n 3), (125, .iconst 1), (126, .iload 5), (128, .ishl), (129, .ior), (130, .istore_n 3), (131, .iconst 0), (132, .istore 7), (134, .iconst 0), (135, .istore 8), (137, .iload 8), (139, .iload 6), (141, .if_icmp .ge 32), (144, .iload 7), (146, .iload 8), (148, .iconst 1), (149, .iadd), (150, .aload_n 0), (151, .getfield 72), (154, .iload_n 2), (155, .iload 8), (157, .iadd), (158, .iaload), (159, .imul), (160, .iadd), (161, .ldc_w 258), (164, .irem), (165, .istore 7), (167, .iinc 8 1), (170, .goto (-33)), (173, .iconst 0), (174, .istore 8), (176, .iload 8), (178, .iload 6), (180, .if_icmp .ge 36), (183, .iload_n 1), (184, .ifCond .eq 32), (187, .aload_n 0), (188, .getfield 69), (191, .sipush 300), (194, .iload 4), (196, .imul), (197, .iload 8), (199, .iadd), (200, .aload_n 0), (201, .getfield 72), (204, .iload_n 2), (205, .iload 8), (207, .iadd), (208, .iaload), (209, .iastore), (210, .iinc 8 1), (213, .goto (-37)), (216, .iload_n 1), (217, .ifCond .eq 21), (220, .aload_n 0), (221, .getfield 63), (224, .iload 4), (226, .iload 5), (228, .iastore), (229, .aload_n 0), (230, .getfield 66), (233, .iload 4), (235, .iload 6), (237, .iastore), (238, .iload_n 2), (239, .iload 6), (241, .iadd), (242, .istore_n 2), (243, .iload 7), (245, .aload_n 0), (246, .getfield 72), (249, .iload_n 2), (250, .iaload), (251, .sipush 256), (254, .aload_n 0), (255, .getfield 72), (258, .iload_n 2), (259, .iconst 1), (260, .iadd), (261, .iaload), (262, .imul), (263, .iadd), (264, .if_icmp .eq 5), (267, .iconst (-1)), (268, .ireturn), (269, .iinc 2 2), (272, .iinc 4 1), (275, .goto (-248)), (278, .iload_n 2), (279, .ireturn)]
def tbMo_agrees : xT := [(0, .aload_n 0), (1, .iconst 0), (2, .putfield 75), (5, .iconst 1), (6, .istore_n 1), (7, .iconst 0), (8, .istore_n 2), (9, .iload_n 2), (10, .aload_n 0), (11, .getfield 82), (14, .if_icmp .ge 27), (17, .iload_n 1), (18, .ifCond .eq 15), (21, .aload_n 0), (22, .iload_n 2), (23, .invokevirtual 278), (26, .ifCond .eq 7), (29, .iconst 1), (30, .goto 4), (33, .iconst 0), (34, .istore_n 1), (35, .iinc 2 1), (38, .goto (-29)), (41, .iload_n 1), (42, .ireturn)]
def tbMo_isText : xT := [(0, .aload_n 0), (1, .iconst 0), (2, .aload_n 0), (3, .getfield 63), (6, .iload_n 1), (7, .iaload), (8, .invokevirtual 171), (11, .aload_n 0), (12, .getfield 66), (15, .iload_n 1), (16, .iaload), (17, .aload_n 0), (18, .getfield 149), (21, .if_icmp .ne 7), (24, .iconst 1), (25, .goto 4), (28, .iconst 0), (29, .istore_n 2), (30, .iconst 0), (31, .istore_n 3), (32, .iload_n 3), (33, .aload_n 0), (34, .getfield 149), (37, .if_icmp .ge 40), (40, .iload_n 2), (41, .ifCond .eq 36), (44, .aload_n 0), (45, .getfield 57), (48, .iload_n 3), (49, .iaload), (50, .aload_n 0), (51, .getfield 69), (54, .sipush 300), (57, .iload_n 1), (58, .imul), (59, .iload_n 3), (60, .iadd), (61, .iaload), (62, .if_icmp .ne 7), (65, .iconst 1), (66, .goto 4), (69, .iconst 0), (70, .istore_n 2), (71, .iinc 3 1), (74, .goto (-42)), (77, .iload_n 2), (78, .ireturn)]
def tbMo_told : xT := [(0, .aload_n 0), (1, .iconst 0), (2, .putfield 75), (5, .iload_n 1), (6, .istore_n 2), (7, .iconst 0), (8, .istore_n 3), (9, .iload_n 3), (10, .bipush 8), (12, .if_icmp .ge 47), (15, .iload_n 1), (16, .ifCond .lt 43), (19, .aload_n 0), (20, .iload_n 3), (21, .invokevirtual 248), (24, .istore 4), (26, .iload 4), (28, .iconst (-1)), (29, .if_icmp .eq 24), (32, .aload_n 0), (33, .iload 4), (35, .invokevirtual 278), (38, .ifCond .eq 6), (41, .goto 12), (44, .iload_n 2), (45, .ifCond .ne 5), (48, .iload_n 3), (49, .ireturn), (50, .iinc 2 (-1)), (53, .iinc 3 1), (56, .goto (-47)), (59, .iconst (-1)), (60, .ireturn)]
def gdf (ci : Nat) : List Value := match ci with
  | 0 => [.null, .null, .null, .null, .null, .null]
  | 1 => [.null, .null, .int 0, .int 0]
  | 2 => [.null, .int 0]
  | 3 => [.int 0, .int 0, .int 0, .int 0, .int 0, .int 0, .int 0]
  | 4 => [.null, .null, .null, .null, .null, .int 0, .int 0]
  | 5 => [.int 0, .null, .int 0]
  | 6 => [.int 0, .null, .int 0]
  | 7 => [.null, .null, .int 0, .int 0, .int 0, .int 0, .int 0, .int 0, .int 0]
  | 8 => [.null, .null, .int 0, .int 0, .int 0]
  | 9 => [.int 0, .int 0, .null, .null, .long 0, .int 0]
  | 10 => [.int 0, .null, .null, .null, .null, .null, .null, .null, .null, .null, .null, .null, .null, .int 0, .null, .null, .null, .int 0, .null, .int 0, .null, .int 0, .int 0, .int 0, .int 0, .int 0, .null, .null, .null, .int 0, .null, .int 0, .int 0, .int 0, .int 0, .int 0, .int 0, .int 0, .int 0]
  | 11 => [.null, .null, .null, .null, .null, .int 0]
  | _ => [.null, .null, .null, .null, .null, .int 0]
def gON : List String := ["DrillArchive", "DrillArchive$Drawing", "DrillArchive$FileSet", "DrillArchive$Hit", "DrillArchive$Planner", "DrillArchive$Row", "DrillArchive$StoredFile", "DrillArchive$TextReader", "DrillArchive$TextWriter", "DrillArchive$Tool", "DrillArchiveModel", "java/lang/IllegalArgumentException", "java/lang/IndexOutOfBoundsException", "DrillArchiveLaw", "java/util/Arrays", "java/lang/Math", "java/lang/String", "java/lang/StringLatin1", "java/lang/Throwable", "java/lang/Throwable", "java/lang/Exception", "java/lang/RuntimeException", "jdk/internal/util/Preconditions"]
/-- getfield, putfield: owner, pool entry, class, field; 0 plain, 1 final, 2 of a nest mate -/
def gFL : List (Nat × Nat × Nat × Nat × Nat) := [(0, 10, 0, 0, 1), (0, 21, 0, 1, 1), (0, 30, 0, 2, 1), (0, 34, 0, 3, 1), (0, 40, 0, 4, 0), (0, 47, 0, 5, 0), (0, 124, 1, 3, 2), (0, 142, 9, 3, 2), (0, 147, 9, 4, 2), (0, 151, 9, 2, 2), (0, 154, 5, 2, 2), (0, 186, 2, 1, 2), (0, 193, 6, 1, 2), (0, 199, 6, 2, 2), (1, 11, 1, 0, 1), (1, 19, 1, 1, 1), (1, 23, 1, 2, 0), (1, 30, 3, 0, 2), (1, 37, 1, 3, 0), (2, 11, 2, 0, 1), (2, 25, 2, 1, 0), (2, 35, 6, 0, 2), (2, 55, 5, 2, 2), (2, 65, 6, 2, 2), (3, 7, 3, 0, 1), (3, 13, 3, 1, 1), (3, 16, 3, 2, 1), (3, 19, 3, 3, 1), (3, 22, 3, 4, 1), (3, 25, 3, 5, 1), (3, 28, 3, 6, 1), (4, 14, 4, 0, 1), (4, 20, 4, 1, 1), (4, 24, 4, 2, 1), (4, 28, 4, 3, 1), (4, 32, 4, 4, 1), (4, 35, 9, 5, 2), (4, 48, 4, 5, 0), (4, 65, 9, 2, 2), (4, 69, 5, 2, 2), (4, 90, 4, 6, 0), (5, 9, 5, 0, 1), (5, 15, 5, 1, 0), (5, 19, 5, 2, 0), (6, 14, 6, 1, 1), (6, 20, 6, 0, 1), (6, 28, 6, 2, 0), (6, 31, 5, 2, 2), (7, 9, 7, 5, 0), (7, 15, 7, 0, 1), (7, 19, 7, 1, 1), (7, 33, 7, 2, 0), (7, 36, 5, 2, 2), (7, 71, 7, 6, 0), (7, 74, 7, 3, 0), (7, 79, 7, 4, 0), (7, 94, 1, 2, 2), (7, 114, 7, 7, 0), (7, 117, 7, 8, 0), (8, 14, 8, 1, 1), (8, 20, 8, 0, 1), (8, 24, 8, 2, 0), (8, 28, 8, 3, 0), (8, 32, 8, 4, 0), (8, 42, 1, 2, 2), (8, 77, 9, 0, 2), (8, 82, 9, 1, 2), (8, 91, 9, 3, 2), (8, 94, 5, 2, 2), (8, 105, 3, 5, 2), (8, 110, 3, 6, 2), (8, 117, 3, 1, 2), (8, 120, 3, 2, 2), (8, 129, 3, 3, 2), (8, 132, 3, 4, 2), (9, 14, 9, 2, 1), (9, 20, 9, 3, 1), (9, 23, 9, 0, 1), (9, 27, 9, 1, 1), (9, 35, 9, 5, 0), (9, 41, 9, 4, 0), (10, 7, 10, 1, 1), (10, 13, 10, 2, 1), (10, 17, 10, 3, 1), (10, 21, 10, 4, 1), (10, 24, 10, 5, 1), (10, 27, 10, 6, 1), (10, 30, 10, 7, 1), (10, 33, 10, 8, 1), (10, 36, 10, 9, 1), (10, 39, 10, 10, 1), (10, 42, 10, 11, 1), (10, 45, 10, 12, 1), (10, 48, 10, 14, 1), (10, 51, 10, 15, 1), (10, 54, 10, 16, 1), (10, 57, 10, 18, 1), (10, 60, 10, 20, 1), (10, 63, 10, 26, 1), (10, 66, 10, 27, 1), (10, 69, 10, 28, 1), (10, 72, 10, 30, 1), (10, 75, 10, 0, 0), (10, 79, 10, 19, 0), (10, 82, 10, 25, 0), (10, 85, 10, 29, 0), (10, 127, 10, 13, 0), (10, 149, 10, 17, 0), (10, 175, 10, 21, 0), (10, 178, 10, 23, 0), (10, 198, 10, 24, 0), (10, 202, 10, 22, 0), (10, 212, 10, 35, 0), (10, 215, 10, 36, 0), (10, 218, 10, 37, 0), (10, 227, 10, 34, 0), (10, 233, 10, 38, 0), (10, 262, 10, 32, 0), (10, 265, 10, 31, 0), (10, 268, 10, 33, 0), (18, 7, 11, 0, 0), (18, 17, 11, 1, 0), (18, 24, 11, 2, 0), (18, 31, 11, 3, 0), (18, 198, 11, 4, 0), (19, 7, 12, 0, 0), (19, 17, 12, 1, 0), (19, 24, 12, 2, 0), (19, 31, 12, 3, 0), (19, 198, 12, 4, 0)]
/-- new, anewarray: owner, pool entry, class -/
def gKL : List (Nat × Nat × Nat) := [(0, 7, 4), (0, 16, 8), (0, 25, 5), (0, 37, 1), (0, 44, 2), (0, 55, 11), (0, 77, 12), (0, 88, 3), (0, 112, 7), (1, 9, 9), (1, 17, 3), (2, 9, 6), (4, 9, 3), (6, 9, 5), (7, 126, 3), (8, 9, 5), (9, 9, 5), (13, 8, 0), (13, 13, 11), (13, 19, 12), (13, 59, 10)]
def gCI : List (Nat × Nat × Int32) := [(5, 48, 1000000), (6, 34, 65521), (10, 258, 65521)]
def gCJ : List (Nat × Nat × Int64) := [(0, 212, 10000), (0, 214, -1000000), (0, 216, 1000000), (10, 88, -1000000), (10, 90, 1000000), (10, 92, 8), (10, 94, 10000), (10, 130, -1), (10, 155, 10), (10, 193, 48), (13, 62, 4294967295)]
def gCS : List (Nat × Nat × Nat) := [(0, 57, 7), (0, 79, 9), (0, 86, 10), (0, 97, 11), (0, 99, 12), (0, 132, 13), (0, 160, 14), (0, 172, 16), (0, 177, 17), (0, 205, 8), (0, 210, 15), (7, 41, 0), (7, 57, 4), (7, 65, 6), (7, 77, 1), (7, 90, 2), (7, 92, 3), (7, 120, 5), (8, 61, 6), (8, 67, 0), (8, 85, 2), (8, 87, 3), (8, 89, 4), (8, 127, 5)]
end
section
/-! OWN FRAME: one judgement Ex for a walk; a computed step for instructions that touch no cell -/
def xlen (i : ClassFile.Instr) : Nat := match i with
  | .bipush _ => 2
  | .iload _ => 2
  | .lload _ => 2
  | .aload _ => 2
  | .istore _ => 2
  | .lstore _ => 2
  | .astore _ => 2
  | .ldc _ => 2
  | .newarray _ => 2
  | .checkcast _ => 3
  | .putstatic _ => 3
  | .sipush _ => 3
  | .iinc _ _ => 3
  | .ifCond _ _ => 3
  | .if_icmp _ _ => 3
  | .if_acmp _ _ => 3
  | .goto _ => 3
  | .getfield _ => 3
  | .putfield _ => 3
  | .getstatic _ => 3
  | .invokevirtual _ => 3
  | .invokespecial _ => 3
  | .invokestatic _ => 3
  | .new _ => 3
  | .anewarray _ => 3
  | .ldc_w _ => 3
  | .ldc2_w _ => 3
  | .ifnull _ => 3
  | .ifnonnull _ => 3
  | _ => 1
def xfe : xT → Nat → Option ClassFile.Instr
  | [], _ => none
  | q :: r, pc => match Nat.beq q.1 pc with
    | true => some q.2
    | false => xfe r pc
theorem xfe_mem : ∀ (tb : xT) (pc : Nat) (i : ClassFile.Instr), xfe tb pc = some i → (pc, i) ∈ tb
  | [], _, _, h => by cases h
  | q :: t, pc, i, h => by
    unfold xfe at h
    split at h
    · rename_i hq
      cases h
      have := Nat.eq_of_beq_eq_true hq
      subst this
      exact List.mem_cons_self
    · exact List.mem_cons_of_mem _ (xfe_mem t pc i h)
def xget : List (Nat × Value) → Nat → Option Value
  | [], _ => none
  | q :: r, i => match Nat.beq q.1 i with
    | true => some q.2
    | false => xget r i
theorem xget_mem : ∀ (lv : List (Nat × Value)) (i : Nat) (v : Value), xget lv i = some v → (i, v) ∈ lv
  | [], _, _, h => by cases h
  | q :: t, i, v, h => by
    unfold xget at h
    split at h
    · rename_i hq
      cases h
      have := Nat.eq_of_beq_eq_true hq
      subst this
      exact List.mem_cons_self
    · exact List.mem_cons_of_mem _ (xget_mem t i v h)
theorem xget_has {ls : Array Slot} {nL : Nat} {lv : List (Nat × Value)} {i : Nat} {v : Value} (h : lv_has ls nL lv) (hg : xget lv i = some v) : ls[i]? = some (.val v) := h.2.2 (i, v) (xget_mem lv i v hg)
theorem xget_pos {lv : List (Nat × Value)} {i : Nat} {v : Value} (hg : xget lv i = some v) : ∃ k : Nat, lv[k]? = some (i, v) := List.mem_iff_getElem?.mp (xget_mem lv i v hg)
def xs1 (lv : List (Nat × Value)) (i : Nat) (v : Value) : List (Nat × Value) := (i, v) :: lv.filter (fun q => !(q.1 == i) && !(q.1 + 1 == i && q.2.category == 2))
def xs2 (lv : List (Nat × Value)) (i : Nat) (v : Value) : List (Nat × Value) := (i, v) :: lv.filter (fun q => !(q.1 == i) && (!(q.1 == i + 1) && !(q.1 + 1 == i && q.2.category == 2)))
abbrev xR : Type := Option (Nat × List (Nat × Value) × List Value)
/-- loads -/
def xsL (i : ClassFile.Instr) (pc : Nat) (lv : List (Nat × Value)) (st : List Value) : xR := match i with
  | .iload k => match xget lv k with
    | some (.int x) => some (pc + 2, lv, .int x :: st)
    | _ => none
  | .iload_n k => match xget lv k.val with
    | some (.int x) => some (pc + 1, lv, .int x :: st)
    | _ => none
  | .lload k => match xget lv k with
    | some (.long x) => some (pc + 2, lv, .long x :: st)
    | _ => none
  | .lload_n k => match xget lv k.val with
    | some (.long x) => some (pc + 1, lv, .long x :: st)
    | _ => none
  | .aload k => match xget lv k with
    | some (.ref x) => some (pc + 2, lv, .ref x :: st)
    | some .null => some (pc + 2, lv, .null :: st)
    | _ => none
  | .aload_n k => match xget lv k.val with
    | some (.ref x) => some (pc + 1, lv, .ref x :: st)
    | some .null => some (pc + 1, lv, .null :: st)
    | _ => none
  | _ => none
/-- constants -/
def xsC (i : ClassFile.Instr) (pc : Nat) (lv : List (Nat × Value)) (st : List Value) : xR := match i with
  | .iconst n => some (pc + 1, lv, .int (Int32.ofInt n) :: st)
  | .bipush n => some (pc + 2, lv, .int (Int8.ofInt n).toInt32 :: st)
  | .sipush n => some (pc + 3, lv, .int (Int16.ofInt n).toInt32 :: st)
  | .lconst n => some (pc + 1, lv, .long (Int64.ofNat (n : Nat)) :: st)
  | .aconst_null => some (pc + 1, lv, .null :: st)
  | _ => none
/-- stores, iinc, goto -/
def xsS (nL : Nat) (i : ClassFile.Instr) (pc : Nat) (lv : List (Nat × Value)) (st : List Value) : xR := match i with
  | .istore k => match st, Nat.blt k nL with
    | .int x :: r, true => some (pc + 2, xs1 lv k (.int x), r)
    | _, _ => none
  | .istore_n k => match st, Nat.blt k.val nL with
    | .int x :: r, true => some (pc + 1, xs1 lv k.val (.int x), r)
    | _, _ => none
  | .lstore k => match st, Nat.blt (k + 1) nL with
    | .long x :: r, true => some (pc + 2, xs2 lv k (.long x), r)
    | _, _ => none
  | .lstore_n k => match st, Nat.blt (k.val + 1) nL with
    | .long x :: r, true => some (pc + 1, xs2 lv k.val (.long x), r)
    | _, _ => none
  | .astore k => match st, Nat.blt k nL with
    | .ref x :: r, true => some (pc + 2, xs1 lv k (.ref x), r)
    | .null :: r, true => some (pc + 2, xs1 lv k .null, r)
    | _, _ => none
  | .astore_n k => match st, Nat.blt k.val nL with
    | .ref x :: r, true => some (pc + 1, xs1 lv k.val (.ref x), r)
    | .null :: r, true => some (pc + 1, xs1 lv k.val .null, r)
    | _, _ => none
  | .iinc k n => match xget lv k, Nat.blt k nL with
    | some (.int x), true => some (pc + 3, xs1 lv k (.int (x + Int32.ofInt n)), st)
    | _, _ => none
  | .goto off => match (pc : Int) + off with
    | .ofNat t => some (t, lv, st)
    | _ => none
  | _ => none
/-- ints, longs, the stack -/
def xsA (i : ClassFile.Instr) (pc : Nat) (lv : List (Nat × Value)) (st : List Value) : xR := match i with
  | .iadd => match st with
    | .int y :: .int x :: r => some (pc + 1, lv, .int (x + y) :: r)
    | _ => none
  | .isub => match st with
    | .int y :: .int x :: r => some (pc + 1, lv, .int (x - y) :: r)
    | _ => none
  | .imul => match st with
    | .int y :: .int x :: r => some (pc + 1, lv, .int (x * y) :: r)
    | _ => none
  | .iand => match st with
    | .int y :: .int x :: r => some (pc + 1, lv, .int (x &&& y) :: r)
    | _ => none
  | .ior => match st with
    | .int y :: .int x :: r => some (pc + 1, lv, .int (x ||| y) :: r)
    | _ => none
  | .ishl => match st with
    | .int y :: .int x :: r => some (pc + 1, lv, .int (x <<< (y &&& 31)) :: r)
    | _ => none
  | .ishr => match st with
    | .int y :: .int x :: r => some (pc + 1, lv, .int (x >>> (y &&& 31)) :: r)
    | _ => none
  | .ineg => match st with
    | .int x :: r => some (pc + 1, lv, .int (-x) :: r)
    | _ => none
  | .i2l => match st with
    | .int x :: r => some (pc + 1, lv, .long x.toInt64 :: r)
    | _ => none
  | .i2c => match st with
    | .int x :: r => some (pc + 1, lv, .int (x.toUInt32 % 65536).toInt32 :: r)
    | _ => none
  | .l2i => match st with
    | .long x :: r => some (pc + 1, lv, .int x.toInt32 :: r)
    | _ => none
  | .ladd => match st with
    | .long y :: .long x :: r => some (pc + 1, lv, .long (x + y) :: r)
    | _ => none
  | .lsub => match st with
    | .long y :: .long x :: r => some (pc + 1, lv, .long (x - y) :: r)
    | _ => none
  | .lmul => match st with
    | .long y :: .long x :: r => some (pc + 1, lv, .long (x * y) :: r)
    | _ => none
  | .land => match st with
    | .long y :: .long x :: r => some (pc + 1, lv, .long (x &&& y) :: r)
    | _ => none
  | .lor => match st with
    | .long y :: .long x :: r => some (pc + 1, lv, .long (x ||| y) :: r)
    | _ => none
  | .lshl => match st with
    | .int y :: .long x :: r => some (pc + 1, lv, .long (x <<< (y.toInt64 &&& 63)) :: r)
    | _ => none
  | .lcmp => match st with
    | .long y :: .long x :: r => some (pc + 1, lv, .int (lg_cmp x y) :: r)
    | _ => none
  | .dup => match st with
    | v :: r => match v.category with
      | 1 => some (pc + 1, lv, v :: v :: r)
      | _ => none
    | _ => none
  | .pop => match st with
    | v :: r => match v.category with
      | 1 => some (pc + 1, lv, r)
      | _ => none
    | _ => none
  | .dup2 => match st with
    | v :: w :: r => match v.category, w.category with
      | 1, 1 => some (pc + 1, lv, v :: w :: v :: w :: r)
      | _, _ => none
    | _ => none
  | _ => none
def xst (tb : xT) (nL pc : Nat) (lv : List (Nat × Value)) (st : List Value) : xR := match xfe tb pc with
  | none => none
  | some i => match xsL i pc lv st with
    | some r => some r
    | none => match xsC i pc lv st with
      | some r => some r
      | none => match xsS nL i pc lv st with
        | some r => some r
        | none => xsA i pc lv st
end
section
/-! OWN FRAME 2: the rows of part 03 over W -/
section XW
variable {p : Program} {l : Launch} {e : Env} {R : Room} {s : State} {m : MethodId} {args : Array Value} {below : List Frame} {meth : Method} {c : Code} {H : Heap} {locs : List Loc} {cells slots : Nat} {Q : State → Prop}
variable {cc : ByteArray} {pc pc' nL : Nat} {ls : Array Slot} {st st' : List Value} {lv lv' : List (Nat × Value)} {i : ClassFile.Instr}
theorem xsL_ok (hx : p.tables.exec = Jvm.exec) (hb : c.code = cc) (hd : decode cc pc = .ok (i, xlen i)) (hl : lv_has ls nL lv) (hs : xsL i pc lv st = some (pc', lv', st'))
    (k : ∀ ls' : Array Slot, lv_has ls' nL lv' → W p l e R s m args below meth c H locs cells slots Q (F0 m pc' ls' st')) : W p l e R s m args below meth c H locs cells slots Q (F0 m pc ls st) := by
  unfold xsL at hs
  split at hs
  · split at hs
    · rename_i hg; cases hs; exact lv_iload hx hb hd (xget_has hl hg) (k ls hl)
    · cases hs
  · split at hs
    · rename_i hg; cases hs; exact lv_iload_n hx hb hd rfl (xget_has hl hg) (k ls hl)
    · cases hs
  · split at hs
    · rename_i hg; cases hs; exact lv_lload hx hb hd (xget_has hl hg) (k ls hl)
    · cases hs
  · split at hs
    · rename_i hg; cases hs; exact lv_lload_n hx hb hd rfl (xget_has hl hg) (k ls hl)
    · cases hs
  · split at hs
    · rename_i hg; cases hs; exact lv_aload hx hb hd (xget_has hl hg) (k ls hl)
    · rename_i hg; cases hs; exact lv_aloadN hx hb hd (xget_has hl hg) (k ls hl)
    · cases hs
  · split at hs
    · rename_i hg; cases hs; exact lv_aload_n hx hb hd rfl (xget_has hl hg) (k ls hl)
    · rename_i hg; cases hs; exact lv_aload_nN hx hb hd rfl (xget_has hl hg) (k ls hl)
    · cases hs
  · cases hs
theorem xsC_ok (hx : p.tables.exec = Jvm.exec) (hb : c.code = cc) (hd : decode cc pc = .ok (i, xlen i)) (hl : lv_has ls nL lv) (hs : xsC i pc lv st = some (pc', lv', st'))
    (k : ∀ ls' : Array Slot, lv_has ls' nL lv' → W p l e R s m args below meth c H locs cells slots Q (F0 m pc' ls' st')) : W p l e R s m args below meth c H locs cells slots Q (F0 m pc ls st) := by
  unfold xsC at hs
  split at hs
  · cases hs; exact lv_iconst hx hb hd rfl (k ls hl)
  · cases hs; exact lv_bipush hx hb hd rfl (k ls hl)
  · cases hs; exact lv_sipush hx hb hd rfl (k ls hl)
  · cases hs; exact lv_lconst hx hb hd rfl (k ls hl)
  · cases hs; exact lv_null hx hb hd (k ls hl)
  · cases hs
theorem xsS_ok (hx : p.tables.exec = Jvm.exec) (hb : c.code = cc) (hd : decode cc pc = .ok (i, xlen i)) (hl : lv_has ls nL lv) (hs : xsS nL i pc lv st = some (pc', lv', st'))
    (k : ∀ ls' : Array Slot, lv_has ls' nL lv' → W p l e R s m args below meth c H locs cells slots Q (F0 m pc' ls' st')) : W p l e R s m args below meth c H locs cells slots Q (F0 m pc ls st) := by
  unfold xsS at hs
  split at hs
  · split at hs
    · rename_i hn; cases hs; exact lv_istore hx hb hd hl (Nat.blt_eq.mp hn) rfl k
    · cases hs
  · split at hs
    · rename_i hn; cases hs; exact lv_istore_n hx hb hd rfl hl (Nat.blt_eq.mp hn) rfl k
    · cases hs
  · split at hs
    · rename_i hn; cases hs; exact lv_lstore hx hb hd hl (Nat.blt_eq.mp hn) rfl k
    · cases hs
  · split at hs
    · rename_i hn; cases hs; exact lv_lstore_n hx hb hd rfl hl (Nat.blt_eq.mp hn) rfl k
    · cases hs
  · split at hs
    · rename_i hn; cases hs; exact lv_astore hx hb hd hl (Nat.blt_eq.mp hn) rfl k
    · rename_i hn; cases hs; exact lv_astoreN hx hb hd hl (Nat.blt_eq.mp hn) rfl k
    · cases hs
  · split at hs
    · rename_i hn; cases hs; exact lv_astore_n hx hb hd rfl hl (Nat.blt_eq.mp hn) rfl k
    · rename_i hn; cases hs; exact lv_astore_nN hx hb hd rfl hl (Nat.blt_eq.mp hn) rfl k
    · cases hs
  · split at hs
    · rename_i hg hn
      cases hs
      obtain ⟨kk, hk⟩ := xget_pos hg
      exact lv_iinc hx hb hd hl hk rfl (Nat.blt_eq.mp hn) rfl k
    · cases hs
  · split at hs
    · rename_i ht; cases hs; exact lv_goto hx hb hd ht (k ls hl)
    · cases hs
  · cases hs
theorem xsA_ok (hx : p.tables.exec = Jvm.exec) (hb : c.code = cc) (hd : decode cc pc = .ok (i, xlen i)) (hl : lv_has ls nL lv) (hs : xsA i pc lv st = some (pc', lv', st'))
    (k : ∀ ls' : Array Slot, lv_has ls' nL lv' → W p l e R s m args below meth c H locs cells slots Q (F0 m pc' ls' st')) : W p l e R s m args below meth c H locs cells slots Q (F0 m pc ls st) := by
  unfold xsA at hs
  split at hs
  · split at hs
    · cases hs; exact lv_iadd hx hb hd (k ls hl)
    · cases hs
  · split at hs
    · cases hs; exact lv_isub hx hb hd (k ls hl)
    · cases hs
  · split at hs
    · cases hs; exact lv_imul hx hb hd (k ls hl)
    · cases hs
  · split at hs
    · cases hs; exact lv_iand hx hb hd (k ls hl)
    · cases hs
  · split at hs
    · cases hs; exact lv_ior hx hb hd (k ls hl)
    · cases hs
  · split at hs
    · cases hs; exact lv_ishl hx hb hd (k ls hl)
    · cases hs
  · split at hs
    · cases hs; exact lv_ishr hx hb hd (k ls hl)
    · cases hs
  · split at hs
    · cases hs; exact lv_ineg hx hb hd (k ls hl)
    · cases hs
  · split at hs
    · cases hs; exact lv_i2l hx hb hd rfl (k ls hl)
    · cases hs
  · split at hs
    · cases hs; exact lv_i2c hx hb hd rfl (k ls hl)
    · cases hs
  · split at hs
    · cases hs; exact lv_l2i hx hb hd rfl (k ls hl)
    · cases hs
  · split at hs
    · cases hs; exact lv_ladd hx hb hd (k ls hl)
    · cases hs
  · split at hs
    · cases hs; exact lv_lsub hx hb hd (k ls hl)
    · cases hs
  · split at hs
    · cases hs; exact lv_lmul hx hb hd (k ls hl)
    · cases hs
  · split at hs
    · cases hs; exact lv_land hx hb hd (k ls hl)
    · cases hs
  · split at hs
    · cases hs; exact lv_lor hx hb hd (k ls hl)
    · cases hs
  · split at hs
    · cases hs; exact lv_lshl hx hb hd rfl (k ls hl)
    · cases hs
  · split at hs
    · cases hs; exact W.lcmp hx hb hd (k ls hl)
    · cases hs
  · split at hs
    · split at hs
      · rename_i hc; cases hs; exact lv_dup hx hb hd hc (k ls hl)
      · cases hs
    · cases hs
  · split at hs
    · split at hs
      · rename_i hc; cases hs; exact lv_pop hx hb hd hc (k ls hl)
      · cases hs
    · cases hs
  · split at hs
    · split at hs
      · rename_i h1 h2; cases hs; exact lv_dup2_11 hx hb hd h1 h2 (k ls hl)
      · cases hs
    · cases hs
  · cases hs
theorem xst_ok {tb : xT} (hx : p.tables.exec = Jvm.exec) (hb : c.code = cc) (htb : ∀ q ∈ tb, decode cc q.1 = .ok (q.2, xlen q.2)) (hl : lv_has ls nL lv) (hs : xst tb nL pc lv st = some (pc', lv', st'))
    (k : ∀ ls' : Array Slot, lv_has ls' nL lv' → W p l e R s m args below meth c H locs cells slots Q (F0 m pc' ls' st')) : W p l e R s m args below meth c H locs cells slots Q (F0 m pc ls st) := by
  unfold xst at hs
  split at hs
  · cases hs
  · rename_i j hf
    have hd := htb _ (xfe_mem tb pc j hf)
    split at hs
    · rename_i r hr; cases hs; exact xsL_ok hx hb hd hl hr k
    · split at hs
      · rename_i r hr; cases hs; exact xsC_ok hx hb hd hl hr k
      · split at hs
        · rename_i r hr; cases hs; exact xsS_ok hx hb hd hl hr k
        · exact xsA_ok hx hb hd hl hs k
end XW
/-- branches: the condition, where it leads, what is left on the stack -/
def xbr (tb : xT) (pc : Nat) (st : List Value) : Option (Prop × Nat × List Value) := match xfe tb pc with
  | some (.ifCond cd off) => match st, (pc : Int) + off with
    | .int x :: r, .ofNat t => match cd with
      | .eq => some (x = 0, t, r)
      | .ne => some (x ≠ 0, t, r)
      | .lt => some (x < 0, t, r)
      | .ge => some (0 ≤ x, t, r)
      | .gt => some (0 < x, t, r)
      | .le => some (x ≤ 0, t, r)
    | _, _ => none
  | some (.if_icmp cd off) => match st, (pc : Int) + off with
    | .int y :: .int x :: r, .ofNat t => match cd with
      | .eq => some (x = y, t, r)
      | .ne => some (x ≠ y, t, r)
      | .lt => some (x < y, t, r)
      | .ge => some (y ≤ x, t, r)
      | .gt => some (y < x, t, r)
      | .le => some (x ≤ y, t, r)
    | _, _ => none
  | _ => none
end
section
/-! OWN FRAME 3: the judgement Ex, contracts Ct -/
abbrev xM : Type := Nat × MethodName × ByteArray × Nat × Option FieldType × xT
/-- classes' numbers, their slots, array classes, String constants, their bytes -/
abbrev xD : Type := (Nat → ClassId) × (Nat → Nat → Nat) × (Nat → ClassId) × (Nat → Nat) × (Nat → Nat)
def gTB : List Cond := lw_tbl.filter goodWord
def isNst (w : Cond) : Bool := match w with
  | .fieldLinkNest .. => true
  | .methodLinkNest .. => true
  | _ => false
def gNW : List Cond := lw_tbl.filter isNst
def gTY (D : xD) : List (ClassId × FieldType) := [(D.2.2.1 0, .int), (D.2.2.1 1, .boolean), (D.2.2.1 2, .long), (D.2.2.1 3, .object "DrillArchive$Tool"), (D.2.2.1 4, .object "DrillArchive$Hit"), (D.2.2.1 5, .object "DrillArchive$StoredFile")]
def gAO : List String := ["DrillArchive$Tool", "DrillArchive$Hit", "DrillArchive$StoredFile"]
/-- what the tables say beside gTB -/
def gNX (D : xD) (U : State) : Prop := (∀ w ∈ gNW, va_Nw w U) ∧ (∀ C ∈ gAO, va_AO C U) ∧ ∀ q ∈ gST, vk_R q.1 q.2.1 q.2.2.1 (D.2.2.2.1 q.2.2.2) U
/-- what lies in the heap outside A: the String constants -/
def gSX (D : xD) (A : Nat → Prop) (U : State) (H : Heap) : Prop := vk_S gSN gSL gSB D.2.2.2.1 D.2.2.2.2 A U H ∧ va_Z "java/lang/String" "COMPACT_STRINGS" "Z" (.int 1) A U H ∧ va_Zq "jdk/internal/util/Preconditions" "SIOOBE_FORMATTER" "Ljava/util/function/BiFunction;" A U H ∧ va_Zq "java/lang/Throwable" "UNASSIGNED_STACK" "[Ljava/lang/StackTraceElement;" A U H ∧ va_Zq "java/lang/Throwable" "SUPPRESSED_SENTINEL" "Ljava/util/List;" A U H
theorem gNX.same {D : xD} {u U : State} (hv : U.vm = u.vm) (h : gNX D u) : gNX D U := by
  refine ⟨fun w hw => ?_, fun C hC => ?_, fun q hq => (h.2.2 q hq).same hv⟩
  · have h1 := h.1 w hw
    have h2 := (List.mem_filter.mp hw).2
    cases w <;> first | exact va_Nw.same rfl hv.symm h1 | (simp [isNst] at h2)
  · exact (h.2.1 C hC).moved (by rw [hv]; exact Vm.Alike.refl _)
theorem gNX.warm {D : xD} {s U : State} (hW : s.WarmedH U.vm) (h : gNX D s) : gNX D U := by
  refine ⟨fun w hw => ?_, fun C hC => (h.2.1 C hC).moved hW.alike, fun q hq => (h.2.2 q hq).warm hW⟩
  have h1 := h.1 w hw
  have h2 := (List.mem_filter.mp hw).2
  cases w <;> first | exact va_Nw.warmF hW h1 | exact va_Nw.warmM hW h1 | (simp [isNst] at h2)
theorem gSX.moved {D : xD} {A : Nat → Prop} {u U : State} {H : Heap} (hvm : u.vm.Alike U.vm) (h : gSX D A u H) : gSX D A U H := ⟨h.1.moved hvm, h.2.1.moved hvm, h.2.2.1.moved hvm, h.2.2.2.1.moved hvm, h.2.2.2.2.moved hvm⟩
theorem gSX.kept {D : xD} {A : Nat → Prop} {U : State} {H H1 : Heap} (h : gSX D A U H) (hq : ∀ a : Nat, a < H.size → ¬ A a → H1[a]? = H[a]?) : gSX D A U H1 := ⟨h.1.kept hq, h.2.1.kept hq, h.2.2.1.kept hq, h.2.2.2.1.kept hq, h.2.2.2.2.kept hq⟩
theorem gSX.narrow {D : xD} {A B : Nat → Prop} {U : State} {H : Heap} (h : gSX D A U H) (hAB : ∀ q, B q → A q) : gSX D B U H := ⟨h.1.narrow hAB, h.2.1.narrow hAB, h.2.2.1.narrow hAB, h.2.2.2.1.narrow hAB, h.2.2.2.2.narrow hAB⟩
abbrev xG (D : xD) : va_G := (D.1, D.2.1)
/-- what stays the same in a method's walk -/
def Fx (M : xM) (D : xD) (A : Nat → Prop) (p : Program) (s : State) (m : MethodId) (args : Array Value) (meth : Method) (c : Code) : Prop :=
  gON[M.1]? = some M.2.1.cls ∧ p.tables.exec = Jvm.exec ∧ c.code = M.2.2.1 ∧ c.maxLocals = M.2.2.2.1 ∧ meth.sig.returnType = M.2.2.2.2.1 ∧ s.vm.findClass M.2.1.cls = some m.cls ∧ (∀ w ∈ gTB, w.before args s = true) ∧ meth.locks = false ∧ (meth.name = M.2.1.name ∧ s.methodNamed? M.2.1 = some m ∧ ∀ q : Nat, A q → ∀ cell : Cell, s.heap[q]? = some cell → cell.vm.isStatics = false) ∧
  va_K (xG D) gCL (gTY D) s ∧ gNX D s ∧ gSX D A s s.heap ∧ (∀ q : Nat, s.heap.size ≤ q → A q) ∧ ∀ q ∈ M.2.2.2.2.2, decode M.2.2.1 q.1 = .ok (q.2, xlen q.2)
/-- a method's end, by a return or by a throw -/
def MQx (below : List Frame) (Q : Array Value → State → Outcome → State → Prop) (a : Array Value) (s : State) (mc ms : Nat) (free : Addr → Prop) : State → Prop := fun t =>
  ∃ o, t.status = .running ∧ Ended t below o ∧ Q a s o t ∧ s.WarmedH t.vm ∧ ∃ L, s.sameButNew ({ t with vm := s.vm } : State) L mc ms ∧ ∀ q ∈ L, free q.base
theorem MQ.x {below : List Frame} {Q : Array Value → State → Outcome → State → Prop} {a : Array Value} {s t : State} {mc ms : Nat} {free : Addr → Prop} (h : MQ below Q a s mc ms free t) : MQx below Q a s mc ms free t := by
  obtain ⟨o, h1, h2, h3, L, ⟨-, h4, h5⟩, h6⟩ := h
  exact ⟨o, h1, h2, h3, h4, L, h5, h6⟩
theorem W.x {p : Program} {l : Launch} {e : Env} {R : Room} {s : State} {m : MethodId} {args a : Array Value} {below : List Frame} {meth : Method} {c : Code} {H : Heap} {locs : List Loc} {cells slots mc ms : Nat} {Q : Array Value → State → Outcome → State → Prop} {free : Addr → Prop} {g : JFrame} (h : W p l e R s m args below meth c H locs cells slots (MQ below Q a s mc ms free) g) : W p l e R s m args below meth c H locs cells slots (MQx below Q a s mc ms free) g := by
  intro T hT X
  obtain ⟨t, h1, h2⟩ := h T hT X
  exact ⟨t, h1, h2.x⟩
theorem va_at.plain {D : va_G} {cl : List vw_C} {q : Nat × va_E} {H : Heap} (h : va_at D cl q H) {cell : Cell} (hc : H[q.1]? = some cell) : cell.vm.isStatics = false := by
  obtain ⟨a, w⟩ := q
  cases w with
  | inl x =>
    have h : H[a]? = some (vp_cell x.1 x.2) := h
    have hc : H[a]? = some cell := hc
    rw [h] at hc
    cases hc
    obtain ⟨x1, x2, x3⟩ := x
    unfold vp_cell
    split <;> rfl
  | inr o =>
    obtain ⟨r, -, cell', h1, -, h2, -⟩ := h
    cases h1.symm.trans hc
    rw [h2]
    rfl
theorem va_A.plain {D : va_G} {cl : List vw_C} {ws : va_W} {H : Heap} (h : va_P D cl ws H) (q : Nat) (hq : va_A ws H.size q) (cell : Cell) (hc : H[q]? = some cell) : cell.vm.isStatics = false := by
  rcases hq with ⟨k, w, hq⟩ | hq
  · exact (h k _ hq).plain hc
  · have := (Array.getElem?_eq_some_iff.mp hc).1
    omega
/-- the walk's judgement: segments S of cells, locals lv, stack st; Q the method's end; at most mc cells of ms slots in all -/
def Ex (l : Launch) (M : xM) (D : xD) (R : Room) (A : Nat → Prop) (Q : Array Value → State → Outcome → State → Prop) (mc ms : Nat) (pc : Nat) (lv : List (Nat × Value)) (st : List Value) (S : List va_W) (k n : Nat) : Prop :=
  ∀ (p : Program) (e : Env) (s : State) (m : MethodId) (args : Array Value) (below : List Frame) (meth : Method) (c : Code) (H : Heap) (locs : List Loc) (ls : Array Slot),
    Fx M D A p s m args meth c → va_S A s.heap H locs → va_P (xG D) gCL S.flatten H → va_D A S.flatten → lv_has ls M.2.2.2.1 lv →
    W p l e R s m args below meth c H locs k n (MQx below Q args s mc ms A) (F0 m pc ls st)
/-- the words of a method: its code, the tables -/
def xW (M : xM) : List Cond := .code M.2.1 M.2.2.1 M.2.2.2.1 M.2.2.2.2.1 :: gTB
/-- a method's end: an answer and the segments left -/
def xQ (D : xD) (A : Nat → Prop) (Q : Option Value → List va_W → Prop) : Array Value → State → Outcome → State → Prop := fun _ st o t =>
  (∃ (v : Option Value) (S : List va_W), o = .returned v ∧ Q v S ∧ va_P (xG D) gCL S.flatten t.heap ∧ va_D A S.flatten) ∧ va_F A st t
/-- a method's start -/
def xP (D : xD) (av : List Value) (S : List va_W) (sz : Nat) : Array Value → State → Prop :=
  va_Pc av (fun U => U.heap.size = sz ∧ va_P (xG D) gCL S.flatten U.heap ∧ va_K (xG D) gCL (gTY D) U ∧ va_D (fun _ => True) S.flatten ∧ gNX D U ∧ gSX D (va_A S.flatten sz) U U.heap)
/-- A CONTRACT: from the arguments av and the segments S method M returns v and leaves S' with Q v S' -/
def Ct (l : Launch) (M : xM) (D : xD) (R : Room) (av : List Value) (S : List va_W) (Q : Option Value → List va_W → Prop) : Prop :=
  ∀ sz : Nat, Met l M.2.1 (xW M) R (xP D av S sz) (xQ D (va_A S.flatten sz) Q) R.cells R.slots (va_A S.flatten sz)
theorem Ct.of {l : Launch} {M : xM} {D : xD} {R : Room} {av : List Value} {S : List va_W} {Q : Option Value → List va_W → Prop} (ho : gON[M.1]? = some M.2.1.cls) (hy : plainName M.2.1.cls = true) (htb : ∀ q ∈ M.2.2.2.2.2, decode M.2.2.1 q.1 = .ok (q.2, xlen q.2)) (hn : (lg_sl av).length ≤ M.2.2.2.1)
    (h : ∀ A : Nat → Prop, Ex l M D R A (xQ D A Q) R.cells R.slots 0 (lv_args 0 av) [] S 0 0) : Ct l M D R av S Q := by
  intro sz
  refine Met.ofW (cc := M.2.2.1) (maxL := M.2.2.2.1) (ret := M.2.2.2.2.1) hy rfl ?_
  intro p e s m args below meth c s₁ B hml hv
  obtain ⟨rfl, hsz, hP, hK, hD, hN, hX⟩ := hv
  subst hsz
  have hts : ∀ w ∈ xW M, w.before _ s = true := atoms_spec (ws := xW M) B.pre
  have hown : s.vm.findClass M.2.1.cls = some m.cls := findClass_of_methodNamed B.named
  rw [lg_entry_eq]
  have hw := h (va_A S.flatten s.heap.size) p e s m av.toArray below meth c s.heap [] _ ⟨ho, B.exec, B.bytes, hml, B.returns, hown, fun w hw => hts w (List.mem_cons_of_mem _ hw), B.notSynchronized, ⟨(name_of_methodNamed B.named B.method).1, B.named, va_A.plain hP⟩, hK, hN, hX, fun q hq => Or.inr hq, htb⟩
    va_S.rf hP (hD.self (sz := s.heap.size)) (lv_entry av hn)
  intro T hT X
  obtain ⟨t, h1, o, h2, h3, h4, h5, L, h6, h7⟩ := hw T hT X
  obtain ⟨⟨v, S', rfl, -⟩, -⟩ := id h4
  exact ⟨t, h1, .returned v, h2, h3, h4, L, ⟨⟨v, rfl⟩, h5, h6⟩, h7⟩
section XE
variable {l : Launch} {M : xM} {D : xD} {R : Room} {A : Nat → Prop} {Q : Array Value → State → Outcome → State → Prop} {mc ms pc pc' k n : Nat} {lv lv' : List (Nat × Value)} {st st' : List Value} {S S' : List va_W}
/-- a step that touches no cell -/
theorem Ex.p (hs : xst M.2.2.2.2.2 M.2.2.2.1 pc lv st = some (pc', lv', st')) (kk : Ex l M D R A Q mc ms pc' lv' st' S k n) : Ex l M D R A Q mc ms pc lv st S k n := by
  intro p e s m args below meth c H locs ls F hS hP hD hl
  obtain ⟨-, hx, hb, -, -, -, -, -, -, -, -, -, -, htb⟩ := id F
  exact xst_ok hx hb htb hl hs (fun ls' hl' => kk p e s m args below meth c H locs ls' F hS hP hD hl')
/-- a branch -/
theorem Ex.br {P : Prop} (hs : xbr M.2.2.2.2.2 pc st = some (P, pc', st')) (kt : P → Ex l M D R A Q mc ms pc' lv st' S k n) (kf : ¬ P → Ex l M D R A Q mc ms (pc + 3) lv st' S k n) : Ex l M D R A Q mc ms pc lv st S k n := by
  intro p e s m args below meth c H locs ls F hS hP hD hl
  obtain ⟨-, hx, hb, -, -, -, -, -, -, -, -, -, -, htb⟩ := id F
  have kt' := fun h => kt h p e s m args below meth c H locs ls F hS hP hD hl
  have kf' := fun h => kf h p e s m args below meth c H locs ls F hS hP hD hl
  unfold xbr at hs
  split at hs
  · rename_i cd off hf
    have hd := htb _ (xfe_mem _ _ _ hf)
    split at hs
    · rename_i ht
      cases cd <;> cases hs
      · exact lv_if_eq hx hb hd ht kt' kf'
      · exact lv_if_ne hx hb hd ht kt' (fun h => kf' (fun q => q h))
      · exact lv_if_lt hx hb hd ht kt' kf'
      · exact lv_if_ge hx hb hd ht kt' kf'
      · exact lv_if_gt hx hb hd ht kt' kf'
      · exact lv_if_le hx hb hd ht kt' kf'
    · cases hs
  · rename_i cd off hf
    have hd := htb _ (xfe_mem _ _ _ hf)
    split at hs
    · rename_i ht
      cases cd <;> cases hs
      · exact lv_icmp_eq hx hb hd ht kt' kf'
      · exact lv_icmp_ne hx hb hd ht kt' (fun h => kf' (fun q => q h))
      · exact lv_icmp_lt hx hb hd ht kt' kf'
      · exact lv_icmp_ge hx hb hd ht kt' kf'
      · exact lv_icmp_gt hx hb hd ht kt' kf'
      · exact lv_icmp_le hx hb hd ht kt' kf'
    · cases hs
  · cases hs
/-- the same walk, said otherwise -/
theorem Ex.is (js : List Nat) (h1 : lv_pick lv js = lv') (h2 : S.flatten = S'.flatten) (kk : Ex l M D R A Q mc ms pc lv' st S' k n) : Ex l M D R A Q mc ms pc lv st S k n := by
  intro p e s m args below meth c H locs ls F hS hP hD hl
  exact kk p e s m args below meth c H locs ls F hS (h2 ▸ hP) (h2 ▸ hD) (lv_sub hl _ h1)
theorem Ex.more {k' n' : Nat} (h1 : k ≤ k') (h2 : n ≤ n') (kk : Ex l M D R A Q mc ms pc lv st S k' n') : Ex l M D R A Q mc ms pc lv st S k n := by
  intro p e s m args below meth c H locs ls F hS hP hD hl
  exact W.widen h1 h2 (kk p e s m args below meth c H locs ls F hS hP hD hl)
end XE
end
section
/-! OWN FRAME 4: rows that read and write cells -/
def xfd : List (Nat × Nat × Nat × Nat × Nat) → Nat → Nat → Option (Nat × Nat × Nat)
  | [], _, _ => none
  | q :: r, a, b => match Nat.beq q.1 a && Nat.beq q.2.1 b with
    | true => some q.2.2
    | false => xfd r a b
theorem xfd_mem : ∀ (t : List (Nat × Nat × Nat × Nat × Nat)) (a b : Nat) (r : Nat × Nat × Nat), xfd t a b = some r → (a, b, r) ∈ t
  | [], _, _, _, h => by cases h
  | q :: t, a, b, r, h => by
    unfold xfd at h
    split at h
    · rename_i hq
      cases h
      rw [Bool.and_eq_true] at hq
      have h1 := Nat.eq_of_beq_eq_true hq.1
      have h2 := Nat.eq_of_beq_eq_true hq.2
      subst h1; subst h2
      exact List.mem_cons_self
    · exact List.mem_cons_of_mem _ (xfd_mem t a b r h)
def gty (r : vw_C) (k : Nat) : FieldType := (parseFieldDescriptor (r.2.1 k).2.2.1).getD .int
def gFc (q : Nat × Nat × Nat × Nat × Nat) : Prop := match gON[q.1]?, gCL[q.2.2.1]? with
  | some own, some r => q.2.2.2.1 < r.2.2 ∧ True ∧ (match q.2.2.2.2 with
    | 0 => (r.2.1 q.2.2.2.1).2.2.2 = false ∧ Cond.fieldLink own q.2.1 (r.2.1 q.2.2.2.1).1 (r.2.1 q.2.2.2.1).2.1 (r.2.1 q.2.2.2.1).2.2.1 ∈ gTB
    | 1 => (r.2.1 q.2.2.2.1).2.2.2 = true ∧ Cond.fieldLink own q.2.1 (r.2.1 q.2.2.2.1).1 (r.2.1 q.2.2.2.1).2.1 (r.2.1 q.2.2.2.1).2.2.1 ∈ gTB
    | _ => Cond.fieldLinkNest own q.2.1 (r.2.1 q.2.2.2.1).1 (r.2.1 q.2.2.2.1).2.1 (r.2.1 q.2.2.2.1).2.2.1 "DrillArchive" ∈ gNW)
  | _, _ => False
def gCc (r : vw_C) : Prop := (∀ w ∈ u_ws r.1 r.2.1 r.2.2, w ∈ gTB) ∧ (∀ k, k < r.2.2 → parseFieldDescriptor (r.2.1 k).2.2.1 = some (gty r k)) ∧ (∀ a, a < r.2.2 → ∀ b, b < r.2.2 → a ≠ b → (r.2.1 a).2.1 ≠ (r.2.1 b).2.1) ∧ Cond.instantiable r.1 r.2.2 ∈ gTB ∧ Cond.initialized r.1 ∈ gTB
theorem gCL_ok : ∀ r ∈ gCL, gCc r := by
  unfold gCc
  decide +kernel
def gFb (q : Nat × Nat × Nat × Nat × Nat) : Bool := match gON[q.1]?, gCL[q.2.2.1]? with
  | some own, some r => Nat.blt q.2.2.2.1 r.2.2 && (match q.2.2.2.2 with
    | 0 => decide ((r.2.1 q.2.2.2.1).2.2.2 = false) && decide (Cond.fieldLink own q.2.1 (r.2.1 q.2.2.2.1).1 (r.2.1 q.2.2.2.1).2.1 (r.2.1 q.2.2.2.1).2.2.1 ∈ gTB)
    | 1 => decide ((r.2.1 q.2.2.2.1).2.2.2 = true) && decide (Cond.fieldLink own q.2.1 (r.2.1 q.2.2.2.1).1 (r.2.1 q.2.2.2.1).2.1 (r.2.1 q.2.2.2.1).2.2.1 ∈ gTB)
    | _ => decide (Cond.fieldLinkNest own q.2.1 (r.2.1 q.2.2.2.1).1 (r.2.1 q.2.2.2.1).2.1 (r.2.1 q.2.2.2.1).2.2.1 "DrillArchive" ∈ gNW))
  | _, _ => false
theorem gFL_b : gFL.all gFb = true := by decide +kernel
theorem gFL_ok {q : Nat × Nat × Nat × Nat × Nat} (h : q ∈ gFL) : gFc q := by
  have h1 := List.all_eq_true.mp gFL_b q h
  unfold gFb at h1
  unfold gFc
  split at h1
  · rename_i own r e1 e2
    simp only [Bool.and_eq_true, decide_eq_true_eq, Nat.blt_eq] at h1
    obtain ⟨a1, a3⟩ := h1
    refine ⟨a1, trivial, ?_⟩
    split at a3 <;> simp_all
  · cases h1
/-- a place of a segment is a place of the whole -/
theorem fl_pos : ∀ (S : List va_W) (i j : Nat) (C : va_W) (x : Nat × va_E), S[i]? = some C → C[j]? = some x → ∃ q0 : Nat, S.flatten[q0]? = some x ∧ ∀ y, S.flatten.set q0 y = (S.set i (C.set j y)).flatten
  | [], i, j, C, x, h, _ => by simp at h
  | B :: S, 0, j, C, x, h, hx => by
    simp only [List.getElem?_cons_zero, Option.some.injEq] at h
    subst h
    have hj : j < B.length := (List.getElem?_eq_some_iff.mp hx).1
    refine ⟨j, ?_, fun y => ?_⟩
    · rw [List.flatten_cons, List.getElem?_append_left hj, hx]
    · rw [List.flatten_cons, List.set_append_left _ _ hj, List.set_cons_zero, List.flatten_cons]
  | B :: S, i + 1, j, C, x, h, hx => by
    simp only [List.getElem?_cons_succ] at h
    obtain ⟨q0, e1, e2⟩ := fl_pos S i j C x h hx
    refine ⟨B.length + q0, ?_, fun y => ?_⟩
    · rw [List.flatten_cons, List.getElem?_append_right (by omega)]
      simpa using e1
    · rw [List.flatten_cons, List.set_append_right _ _ (by omega), List.set_cons_succ, List.flatten_cons, ← e2 y]
      simp
theorem vp_in_int {x : Int32} {j N : Nat} (hx : x.toInt = j) (hj : j < N) : vp_in x N := vp_in_iff.mpr ⟨by omega, by omega⟩
theorem clamp_int {x : Int32} {j : Nat} (hx : x.toInt = j) : x.toNatClampNeg = j := by
  show x.toInt.toNat = j
  rw [hx]
  exact Int.toNat_natCast j
section XH
variable {l : Launch} {M : xM} {D : xD} {R : Room} {A : Nat → Prop} {Q : Array Value → State → Outcome → State → Prop} {mc ms pc pc' k n : Nat} {lv lv' : List (Nat × Value)} {st st' : List Value} {S S' : List va_W} {C : va_W} {a : Nat} {ce : va_E}
def xgf (M : xM) (pc : Nat) (ce : va_E) : Option Value := match xfe M.2.2.2.2.2 pc with
  | some (.getfield ix) => match xfd gFL M.1 ix with
    | some (ci, fk, _) => match ce with
      | .inr (cj, fs) => match Nat.beq ci cj with
        | true => fs[fk]?
        | false => none
      | _ => none
    | none => none
  | _ => none
theorem Ex.gf (i j : Nat) {v : Value} (hi : S[i]? = some C) (hj : C[j]? = some (a, ce)) (hg : xgf M pc ce = some v) (kk : Ex l M D R A Q mc ms (pc + 3) lv (v :: st) S k n) : Ex l M D R A Q mc ms pc lv (.ref a :: st) S k n := by
  intro p e s m args below meth c H locs ls F hS hP hD hl
  obtain ⟨ho, hx, hb, -, -, hown, hts, -, -, hK, hN, -, -, htb⟩ := id F
  obtain ⟨q0, hq0, -⟩ := fl_pos S i j C _ hi hj
  have kk' := kk p e s m args below meth c H locs ls F hS hP hD hl
  unfold xgf at hg
  split at hg
  · rename_i ix hf
    have hd := htb _ (xfe_mem _ _ _ hf)
    split at hg
    · rename_i ci fk kd hfd
      split at hg
      · rename_i cj fs
        split at hg
        · rename_i hb2
          have hcc := Nat.eq_of_beq_eq_true hb2
          subst hcc
          have hok := gFL_ok (xfd_mem _ _ _ _ hfd)
          unfold gFc at hok
          split at hok
          · rename_i own r e1 e2
            have heq : own = M.2.1.cls := Option.some.inj (e1.symm.trans ho)
            subst heq
            obtain ⟨h1, h2, h3⟩ := hok
            have hr := gCL_ok r (List.mem_of_getElem? e2)
            split at h3
            · exact va_get hx hb hts hr.1 hown hK hP q0 hq0 e2 _ h1 (hts _ h3.2) (fun x hx => hx) hg hd kk'
            · exact va_get hx hb hts hr.1 hown hK hP q0 hq0 e2 _ h1 (hts _ h3.2) (fun x hx => hx) hg hd kk'
            · exact va_getN hx hb hts hr.1 hown hK hP q0 hq0 e2 _ h1 (va_Nw.use rfl (hN.1 _ h3)) (fun x hx => hx) hg hd kk'
          · cases hok
        · cases hg
      · cases hg
    · cases hg
  · cases hg
end XH
end
section
/-! OWN FRAME 5: more rows over cells -/
section XH2
variable {l : Launch} {M : xM} {D : xD} {R : Room} {A : Nat → Prop} {Q : Array Value → State → Outcome → State → Prop} {mc ms pc pc' k n : Nat} {lv lv' : List (Nat × Value)} {st st' : List Value} {S S' : List va_W} {C : va_W} {a : Nat} {ce : va_E}
/-- putfield: which field (class, place, kind) -/
def xpf (M : xM) (pc : Nat) : Option (Nat × Nat × Nat) := match xfe M.2.2.2.2.2 pc with
  | some (.putfield ix) => xfd gFL M.1 ix
  | _ => none
def xty (ci fk : Nat) : FieldType := match gCL[ci]? with
  | some r => gty r fk
  | none => .int
theorem gNM : gON = gCL.map (fun r => r.1) ++ gON.drop 13 := rfl
theorem gNM_at {i : Nat} {r : vw_C} (h : gCL[i]? = some r) : gON[i]? = some r.1 := by
  have hl := (List.getElem?_eq_some_iff.mp h).1
  rw [gNM, List.getElem?_append_left (by rw [List.length_map]; exact hl), List.getElem?_map, h]
  rfl
theorem Ex.pf (i j : Nat) {ci fk : Nat} {fs : List Value} {v : Value} (hi : S[i]? = some C) (hj : C[j]? = some (a, .inr (ci, fs))) (hg : xpf M pc = some (ci, fk, 0)) (hl9 : Nat.blt fk fs.length = true) (hn : narrow (xty ci fk) v = v) (hft : fits (xty ci fk) v = true) (kk : Ex l M D R A Q mc ms (pc + 3) lv st (S.set i (C.set j (a, .inr (ci, fs.set fk v)))) k n) : Ex l M D R A Q mc ms pc lv (v :: .ref a :: st) S k n := by
  intro p e s m args below meth c H locs ls F hS hP hD hl
  obtain ⟨ho, hx, hb, -, -, hown, hts, -, hin, hK, hN, hX, hA, htb⟩ := id F
  obtain ⟨q0, hq0, hset⟩ := fl_pos S i j C _ hi hj
  unfold xpf at hg
  split at hg
  · rename_i ix hf
    have hd := htb _ (xfe_mem _ _ _ hf)
    have hok := gFL_ok (xfd_mem _ _ _ _ hg)
    unfold gFc at hok
    split at hok
    · rename_i own r e1 e2
      have heq : own = M.2.1.cls := Option.some.inj (e1.symm.trans ho)
      subst heq
      obtain ⟨h1, h2, h3⟩ := hok
      have hr := gCL_ok r (List.mem_of_getElem? e2)
      have hty : xty ci fk = gty r fk := by unfold xty; rw [show gCL[ci]? = some r from e2]
      rw [hty] at hn hft
      refine va_put hx hb hts hr.1 (gty r) hr.2.1 hr.2.2.1 hown hK hP hD hS q0 hq0 e2 _ h1 (hts _ h3.2) (fun x hx => hx) h3.1 (hr.2.1 _ h1) hn hft (Nat.blt_eq.mp hl9) hd (fun H1 locs1 hP1 hD1 hS1 => ?_)
      rw [hset] at hP1 hD1
      exact kk p e s m args below meth c H1 locs1 ls F hS1 hP1 hD1 hl
    · cases hok
  · cases hg
theorem Ex.pfF (i j : Nat) {ci fk : Nat} {fs : List Value} {v : Value} (hi : S[i]? = some C) (hj : C[j]? = some (a, .inr (ci, fs))) (hg : xpf M pc = some (ci, fk, 1)) (hin0 : M.2.1.name = "<init>") (hci : (gCL[ci]?).map (fun r => (r.2.1 fk).1) = some M.2.1.cls) (hl9 : Nat.blt fk fs.length = true) (hn : narrow (xty ci fk) v = v) (hft : fits (xty ci fk) v = true) (kk : Ex l M D R A Q mc ms (pc + 3) lv st (S.set i (C.set j (a, .inr (ci, fs.set fk v)))) k n) : Ex l M D R A Q mc ms pc lv (v :: .ref a :: st) S k n := by
  intro p e s m args below meth c H locs ls F hS hP hD hl
  obtain ⟨ho, hx, hb, -, -, hown, hts, -, hin, hK, hN, hX, hA, htb⟩ := id F
  obtain ⟨q0, hq0, hset⟩ := fl_pos S i j C _ hi hj
  unfold xpf at hg
  split at hg
  · rename_i ix hf
    have hd := htb _ (xfe_mem _ _ _ hf)
    have hok := gFL_ok (xfd_mem _ _ _ _ hg)
    unfold gFc at hok
    split at hok
    · rename_i own r e1 e2
      have heq : own = M.2.1.cls := Option.some.inj (e1.symm.trans ho)
      subst heq
      obtain ⟨h1, h2, h3⟩ := hok
      have hr := gCL_ok r (List.mem_of_getElem? e2)
      have hty : xty ci fk = gty r fk := by unfold xty; rw [show gCL[ci]? = some r from e2]
      rw [hty] at hn hft
      have hdecl : (r.2.1 fk).1 = M.2.1.cls := by
        rw [show gCL[ci]? = some r from e2] at hci
        exact Option.some.inj hci
      refine va_putF hx hb hts hr.1 (gty r) hr.2.1 hr.2.2.1 hown hK hP hD hS q0 hq0 e2 _ h1 (hts _ h3.2) (fun x hx => hx) h3.1 (hin.1.trans hin0) hdecl (hr.2.1 _ h1) hn hft (Nat.blt_eq.mp hl9) hd (fun H1 locs1 hP1 hD1 hS1 => ?_)
      rw [hset] at hP1 hD1
      exact kk p e s m args below meth c H1 locs1 ls F hS1 hP1 hD1 hl
    · cases hok
  · cases hg
end XH2
end
section
section XH2
variable {l : Launch} {M : xM} {D : xD} {R : Room} {A : Nat → Prop} {Q : Array Value → State → Outcome → State → Prop} {mc ms pc pc' k n : Nat} {lv lv' : List (Nat × Value)} {st st' : List Value} {S S' : List va_W} {C : va_W} {a : Nat} {ce : va_E}
theorem Ex.ial (i j jx : Nat) {N : Nat} {f : Nat → Int32} {x : Int32} (hi : S[i]? = some C) (hj : C[j]? = some (a, .inl (D.2.2.1 0, N, .inl f))) (hf : xfe M.2.2.2.2.2 pc = some .iaload) (hx9 : x.toInt = jx) (hN9 : jx < N) (kk : Ex l M D R A Q mc ms (pc + 1) lv (.int (f jx) :: st) S k n) : Ex l M D R A Q mc ms pc lv (.int x :: .ref a :: st) S k n := by
  intro p e s m args below meth c H locs ls F hS hP hD hl
  obtain ⟨ho, hx, hb, -, -, hown, hts, -, hin, hK, hN, hX, hA, htb⟩ := id F
  have hd := htb _ (xfe_mem _ _ _ hf)
  obtain ⟨q0, hq0, -⟩ := fl_pos S i j C _ hi hj
  refine va_iald hx hb hK hP q0 0 hq0 rfl (vp_in_int hx9 hN9) hd ?_
  rw [clamp_int hx9]
  exact kk p e s m args below meth c H locs ls F hS hP hD hl
theorem Ex.zal (i j jx : Nat) {N : Nat} {f : Nat → Int32} {x : Int32} (hi : S[i]? = some C) (hj : C[j]? = some (a, .inl (D.2.2.1 1, N, .inl f))) (hf : xfe M.2.2.2.2.2 pc = some .baload) (hx9 : x.toInt = jx) (hN9 : jx < N) (kk : Ex l M D R A Q mc ms (pc + 1) lv (.int (f jx) :: st) S k n) : Ex l M D R A Q mc ms pc lv (.int x :: .ref a :: st) S k n := by
  intro p e s m args below meth c H locs ls F hS hP hD hl
  obtain ⟨ho, hx, hb, -, -, hown, hts, -, hin, hK, hN, hX, hA, htb⟩ := id F
  have hd := htb _ (xfe_mem _ _ _ hf)
  obtain ⟨q0, hq0, -⟩ := fl_pos S i j C _ hi hj
  refine va_zald hx hb hK hP q0 1 hq0 rfl (vp_in_int hx9 hN9) hd ?_
  rw [clamp_int hx9]
  exact kk p e s m args below meth c H locs ls F hS hP hD hl
theorem Ex.lal (i j jx : Nat) {N : Nat} {f : Nat → Int64} {x : Int32} (hi : S[i]? = some C) (hj : C[j]? = some (a, .inl (D.2.2.1 2, N, .inr (.inl f)))) (hf : xfe M.2.2.2.2.2 pc = some .laload) (hx9 : x.toInt = jx) (hN9 : jx < N) (kk : Ex l M D R A Q mc ms (pc + 1) lv (.long (f jx) :: st) S k n) : Ex l M D R A Q mc ms pc lv (.int x :: .ref a :: st) S k n := by
  intro p e s m args below meth c H locs ls F hS hP hD hl
  obtain ⟨ho, hx, hb, -, -, hown, hts, -, hin, hK, hN, hX, hA, htb⟩ := id F
  have hd := htb _ (xfe_mem _ _ _ hf)
  obtain ⟨q0, hq0, -⟩ := fl_pos S i j C _ hi hj
  refine va_lald hx hb hK hP q0 2 hq0 rfl (vp_in_int hx9 hN9) hd ?_
  rw [clamp_int hx9]
  exact kk p e s m args below meth c H locs ls F hS hP hD hl
theorem Ex.ias (i j jx : Nat) {N : Nat} {f : Nat → Int32} {x : Int32} {y : Int32} (hi : S[i]? = some C) (hj : C[j]? = some (a, .inl (D.2.2.1 0, N, .inl f))) (hf : xfe M.2.2.2.2.2 pc = some .iastore) (hx9 : x.toInt = jx) (hN9 : jx < N) (kk : Ex l M D R A Q mc ms (pc + 1) lv st (S.set i (C.set j (a, .inl (D.2.2.1 0, N, .inl (upd f jx y))))) k n) : Ex l M D R A Q mc ms pc lv (.int y :: .int x :: .ref a :: st) S k n := by
  intro p e s m args below meth c H locs ls F hS hP hD hl
  obtain ⟨ho, hx, hb, -, -, hown, hts, -, hin, hK, hN, hX, hA, htb⟩ := id F
  have hd := htb _ (xfe_mem _ _ _ hf)
  obtain ⟨q0, hq0, hset⟩ := fl_pos S i j C _ hi hj
  refine va_iast hx hb hK hP hD hS q0 0 hq0 rfl (vp_in_int hx9 hN9) hd (fun H1 locs1 hP1 hD1 hS1 => ?_)
  rw [clamp_int hx9, hset] at hP1 hD1
  exact kk p e s m args below meth c H1 locs1 ls F hS1 hP1 hD1 hl
theorem Ex.las (i j jx : Nat) {N : Nat} {f : Nat → Int64} {x : Int32} {y : Int64} (hi : S[i]? = some C) (hj : C[j]? = some (a, .inl (D.2.2.1 2, N, .inr (.inl f)))) (hf : xfe M.2.2.2.2.2 pc = some .lastore) (hx9 : x.toInt = jx) (hN9 : jx < N) (kk : Ex l M D R A Q mc ms (pc + 1) lv st (S.set i (C.set j (a, .inl (D.2.2.1 2, N, .inr (.inl (vp_updL f jx y)))))) k n) : Ex l M D R A Q mc ms pc lv (.long y :: .int x :: .ref a :: st) S k n := by
  intro p e s m args below meth c H locs ls F hS hP hD hl
  obtain ⟨ho, hx, hb, -, -, hown, hts, -, hin, hK, hN, hX, hA, htb⟩ := id F
  have hd := htb _ (xfe_mem _ _ _ hf)
  obtain ⟨q0, hq0, hset⟩ := fl_pos S i j C _ hi hj
  refine va_last hx hb hK hP hD hS q0 2 hq0 rfl (vp_in_int hx9 hN9) hd (fun H1 locs1 hP1 hD1 hS1 => ?_)
  rw [clamp_int hx9, hset] at hP1 hD1
  exact kk p e s m args below meth c H1 locs1 ls F hS1 hP1 hD1 hl
theorem Ex.zas (i j jx : Nat) {N : Nat} {f : Nat → Int32} {x : Int32} {y : Int32} (hi : S[i]? = some C) (hj : C[j]? = some (a, .inl (D.2.2.1 1, N, .inl f))) (hf : xfe M.2.2.2.2.2 pc = some .bastore) (hx9 : x.toInt = jx) (hN9 : jx < N) (hy9 : y = 0 ∨ y = 1) (kk : Ex l M D R A Q mc ms (pc + 1) lv st (S.set i (C.set j (a, .inl (D.2.2.1 1, N, .inl (upd f jx y))))) k n) : Ex l M D R A Q mc ms pc lv (.int y :: .int x :: .ref a :: st) S k n := by
  intro p e s m args below meth c H locs ls F hS hP hD hl
  obtain ⟨ho, hx, hb, -, -, hown, hts, -, hin, hK, hN, hX, hA, htb⟩ := id F
  have hd := htb _ (xfe_mem _ _ _ hf)
  obtain ⟨q0, hq0, hset⟩ := fl_pos S i j C _ hi hj
  refine va_zast hx hb hK hP hD hS q0 1 hq0 rfl (vp_in_int hx9 hN9) hd (fun H1 locs1 hP1 hD1 hS1 => ?_)
  rw [clamp_int hx9, (show vp_nar .boolean y = y by rcases hy9 with rfl | rfl <;> decide), hset] at hP1 hD1
  exact kk p e s m args below meth c H1 locs1 ls F hS1 hP1 hD1 hl
end XH2
end
section
section XH2
variable {l : Launch} {M : xM} {D : xD} {R : Room} {A : Nat → Prop} {Q : Array Value → State → Outcome → State → Prop} {mc ms pc pc' k n : Nat} {lv lv' : List (Nat × Value)} {st st' : List Value} {S S' : List va_W} {C : va_W} {a : Nat} {ce : va_E}
theorem Ex.aal (i j jx t0 : Nat) {N : Nat} {f : Nat → Option Nat} {x : Int32} {cn : String} (ht : (gTY D)[t0]? = some (D.2.2.1 t0, .object cn)) (hi : S[i]? = some C) (hj : C[j]? = some (a, .inl (D.2.2.1 t0, N, .inr (.inr (.inr (.inr f)))))) (hf : xfe M.2.2.2.2.2 pc = some .aaload) (hx9 : x.toInt = jx) (hN9 : jx < N) (kk : Ex l M D R A Q mc ms (pc + 1) lv (va_rf (f jx) :: st) S k n) : Ex l M D R A Q mc ms pc lv (.int x :: .ref a :: st) S k n := by
  intro p e s m args below meth c H locs ls F hS hP hD hl
  obtain ⟨ho, hx, hb, -, -, hown, hts, -, hin, hK, hN, hX, hA, htb⟩ := id F
  have hd := htb _ (xfe_mem _ _ _ hf)
  obtain ⟨q0, hq0, -⟩ := fl_pos S i j C _ hi hj
  refine va_aldq hx hb hK hP q0 t0 hq0 ht (vp_in_int hx9 hN9) hd ?_
  rw [clamp_int hx9]
  exact kk p e s m args below meth c H locs ls F hS hP hD hl
theorem Ex.aas (i j jx t0 iv jv ci : Nat) {N v : Nat} {f : Nat → Option Nat} {x : Int32} {r : vw_C} {Cv : va_W} {vs : List Value} (hc : gCL[ci]? = some r) (ht : (gTY D)[t0]? = some (D.2.2.1 t0, .object r.1)) (hi : S[i]? = some C) (hj : C[j]? = some (a, .inl (D.2.2.1 t0, N, .inr (.inr (.inr (.inr f)))))) (hiv : S[iv]? = some Cv) (hjv : Cv[jv]? = some (v, .inr (ci, vs))) (hf : xfe M.2.2.2.2.2 pc = some .aastore) (hx9 : x.toInt = jx) (hN9 : jx < N)
    (kk : Ex l M D R A Q mc ms (pc + 1) lv st (S.set i (C.set j (a, .inl (D.2.2.1 t0, N, .inr (.inr (.inr (.inr (va_up f jx (some v))))))))) k n) : Ex l M D R A Q mc ms pc lv (.ref v :: .int x :: .ref a :: st) S k n := by
  intro p e s m args below meth c H locs ls F hS hP hD hl
  obtain ⟨ho, hx, hb, -, -, hown, hts, -, hin, hK, hN, hX, hA, htb⟩ := id F
  have hd := htb _ (xfe_mem _ _ _ hf)
  obtain ⟨q0, hq0, hset⟩ := fl_pos S i j C _ hi hj
  obtain ⟨qv, hqv, -⟩ := fl_pos S iv jv Cv _ hiv hjv
  refine va_astq hx hb hK hP hD hS q0 t0 qv ci hq0 ht hqv hc (vp_in_int hx9 hN9) hd (fun H1 locs1 hP1 hD1 hS1 => ?_)
  rw [clamp_int hx9, hset] at hP1 hD1
  exact kk p e s m args below meth c H1 locs1 ls F hS1 hP1 hD1 hl
theorem Ex.alen (i j t0 : Nat) {x : vp_A} {ty : FieldType} (ht : (gTY D)[t0]? = some (D.2.2.1 t0, ty)) (hi : S[i]? = some C) (hj : C[j]? = some (a, .inl (D.2.2.1 t0, x))) (hf : xfe M.2.2.2.2.2 pc = some .arraylength) (kk : Ex l M D R A Q mc ms (pc + 1) lv (.int (nI x.1) :: st) S k n) : Ex l M D R A Q mc ms pc lv (.ref a :: st) S k n := by
  intro p e s m args below meth c H locs ls F hS hP hD hl
  obtain ⟨ho, hx, hb, -, -, hown, hts, -, hin, hK, hN, hX, hA, htb⟩ := id F
  have hd := htb _ (xfe_mem _ _ _ hf)
  obtain ⟨q0, hq0, -⟩ := fl_pos S i j C _ hi hj
  exact va_alen hx hb hK hP q0 t0 hq0 ht rfl hd (kk p e s m args below meth c H locs ls F hS hP hD hl)
theorem Ex.idiv {x y : Int32} (hf : xfe M.2.2.2.2.2 pc = some .idiv) (hne : ¬ y = 0) (kk : Ex l M D R A Q mc ms (pc + 1) lv (.int (x / y) :: st) S k n) : Ex l M D R A Q mc ms pc lv (.int y :: .int x :: st) S k n := by
  intro p e s m args below meth c H locs ls F hS hP hD hl
  obtain ⟨ho, hx, hb, -, -, hown, hts, -, hin, hK, hN, hX, hA, htb⟩ := id F
  have hd := htb _ (xfe_mem _ _ _ hf)
  exact lv_idiv hx hb hd hne (kk p e s m args below meth c H locs ls F hS hP hD hl)
theorem Ex.irem {x y : Int32} (hf : xfe M.2.2.2.2.2 pc = some .irem) (hne : ¬ y = 0) (kk : Ex l M D R A Q mc ms (pc + 1) lv (.int (x - x / y * y) :: st) S k n) : Ex l M D R A Q mc ms pc lv (.int y :: .int x :: st) S k n := by
  intro p e s m args below meth c H locs ls F hS hP hD hl
  obtain ⟨ho, hx, hb, -, -, hown, hts, -, hin, hK, hN, hX, hA, htb⟩ := id F
  have hd := htb _ (xfe_mem _ _ _ hf)
  exact lv_irem hx hb hd hne (kk p e s m args below meth c H locs ls F hS hP hD hl)
theorem Ex.ldiv {x y : Int64} (hf : xfe M.2.2.2.2.2 pc = some .ldiv) (hne : ¬ y = 0) (kk : Ex l M D R A Q mc ms (pc + 1) lv (.long (x / y) :: st) S k n) : Ex l M D R A Q mc ms pc lv (.long y :: .long x :: st) S k n := by
  intro p e s m args below meth c H locs ls F hS hP hD hl
  obtain ⟨ho, hx, hb, -, -, hown, hts, -, hin, hK, hN, hX, hA, htb⟩ := id F
  have hd := htb _ (xfe_mem _ _ _ hf)
  exact lv_ldiv hx hb hd hne (kk p e s m args below meth c H locs ls F hS hP hD hl)
theorem Ex.lrem {x y : Int64} (hf : xfe M.2.2.2.2.2 pc = some .lrem) (hne : ¬ y = 0) (kk : Ex l M D R A Q mc ms (pc + 1) lv (.long (x - x / y * y) :: st) S k n) : Ex l M D R A Q mc ms pc lv (.long y :: .long x :: st) S k n := by
  intro p e s m args below meth c H locs ls F hS hP hD hl
  obtain ⟨ho, hx, hb, -, -, hown, hts, -, hin, hK, hN, hX, hA, htb⟩ := id F
  have hd := htb _ (xfe_mem _ _ _ hf)
  exact lv_lrem hx hb hd hne (kk p e s m args below meth c H locs ls F hS hP hD hl)
theorem Ex.nnR {off : Int}{x : Nat} (hf : xfe M.2.2.2.2.2 pc = some (.ifnonnull off)) {t : Nat} (ht : (pc : Int) + off = (t : Int)) (kk : Ex l M D R A Q mc ms t lv st S k n) : Ex l M D R A Q mc ms pc lv (.ref x :: st) S k n := by
  intro p e s m args below meth c H locs ls F hS hP hD hl
  obtain ⟨ho, hx, hb, -, -, hown, hts, -, hin, hK, hN, hX, hA, htb⟩ := id F
  have hd := htb _ (xfe_mem _ _ _ hf)
  exact lv_ifnonnull hx hb hd ht (kk p e s m args below meth c H locs ls F hS hP hD hl)
theorem Ex.nuR {off : Int}{x : Nat} (hf : xfe M.2.2.2.2.2 pc = some (.ifnull off)) (kk : Ex l M D R A Q mc ms (pc + 3) lv st S k n) : Ex l M D R A Q mc ms pc lv (.ref x :: st) S k n := by
  intro p e s m args below meth c H locs ls F hS hP hD hl
  obtain ⟨ho, hx, hb, -, -, hown, hts, -, hin, hK, hN, hX, hA, htb⟩ := id F
  have hd := htb _ (xfe_mem _ _ _ hf)
  exact lv_ifnull hx hb hd (kk p e s m args below meth c H locs ls F hS hP hD hl)
theorem Ex.nuN {off : Int} (hf : xfe M.2.2.2.2.2 pc = some (.ifnull off)) {t : Nat} (ht : (pc : Int) + off = (t : Int)) (kk : Ex l M D R A Q mc ms t lv st S k n) : Ex l M D R A Q mc ms pc lv (.null :: st) S k n := by
  intro p e s m args below meth c H locs ls F hS hP hD hl
  obtain ⟨ho, hx, hb, -, -, hown, hts, -, hin, hK, hN, hX, hA, htb⟩ := id F
  have hd := htb _ (xfe_mem _ _ _ hf)
  exact lv_ifnullN hx hb hd ht (kk p e s m args below meth c H locs ls F hS hP hD hl)
theorem Ex.nnN {off : Int} (hf : xfe M.2.2.2.2.2 pc = some (.ifnonnull off)) (kk : Ex l M D R A Q mc ms (pc + 3) lv st S k n) : Ex l M D R A Q mc ms pc lv (.null :: st) S k n := by
  intro p e s m args below meth c H locs ls F hS hP hD hl
  obtain ⟨ho, hx, hb, -, -, hown, hts, -, hin, hK, hN, hX, hA, htb⟩ := id F
  have hd := htb _ (xfe_mem _ _ _ hf)
  exact lv_ifnonnullN hx hb hd (kk p e s m args below meth c H locs ls F hS hP hD hl)
end XH2
end
section
/-! OWN FRAME 6: constants, new cells, ends, switches -/
def xf3 {α : Type} : List (Nat × Nat × α) → Nat → Nat → Option α
  | [], _, _ => none
  | q :: r, a, b => match Nat.beq q.1 a && Nat.beq q.2.1 b with
    | true => some q.2.2
    | false => xf3 r a b
theorem xf3_mem {α : Type} : ∀ (t : List (Nat × Nat × α)) (a b : Nat) (r : α), xf3 t a b = some r → (a, b, r) ∈ t
  | [], _, _, _, h => by cases h
  | q :: t, a, b, r, h => by
    unfold xf3 at h
    split at h
    · rename_i hq
      cases h
      rw [Bool.and_eq_true] at hq
      have h1 := Nat.eq_of_beq_eq_true hq.1
      have h2 := Nat.eq_of_beq_eq_true hq.2
      subst h1; subst h2
      exact List.mem_cons_self
    · exact List.mem_cons_of_mem _ (xf3_mem t a b r h)
theorem gCI_b : gCI.all (fun q => decide (Cond.constant (gON.getD q.1 "") q.2.1 q.2.2 ∈ gTB)) = true := by decide +kernel
theorem gCJ_b : gCJ.all (fun q => decide (Cond.constantLong (gON.getD q.1 "") q.2.1 q.2.2 ∈ gTB)) = true := by decide +kernel
theorem gKL_b : gKL.all (fun q => decide (Cond.classLink (gON.getD q.1 "") q.2.1 (gON.getD q.2.2 "") ∈ gTB)) = true := by decide +kernel
theorem gCS_b : gCS.all (fun q => gST.any (fun z => decide (z.1 = gON.getD q.1 "") && Nat.beq z.2.1 q.2.1 && Nat.beq z.2.2.2 q.2.2)) = true := by decide +kernel
theorem gdf_b : ∀ ci, ci < 13 → ∀ j, j < (gCL.getD ci ("", fun _ => ("", "", "", false), 0)).2.2 → defaultValue (gty (gCL.getD ci ("", fun _ => ("", "", "", false), 0)) j) = vp_V (gdf ci) j := by decide +kernel
theorem gON_D {i : Nat} {o : String} (h : gON[i]? = some o) : gON.getD i "" = o := by rw [List.getD_eq_getElem?_getD, h]; rfl
def xck (M : xM) (pc : Nat) : Option Int32 := match xfe M.2.2.2.2.2 pc with
  | some (.ldc ix) => xf3 gCI M.1 ix
  | _ => none
def xcj (M : xM) (pc : Nat) : Option Int64 := match xfe M.2.2.2.2.2 pc with
  | some (.ldc2_w ix) => xf3 gCJ M.1 ix
  | _ => none
def xcs (M : xM) (pc : Nat) : Option Nat := match xfe M.2.2.2.2.2 pc with
  | some (.ldc ix) => xf3 gCS M.1 ix
  | _ => none
def xnw (M : xM) (pc : Nat) : Option Nat := match xfe M.2.2.2.2.2 pc with
  | some (.new ix) => xf3 gKL M.1 ix
  | _ => none
def xan (M : xM) (pc : Nat) : Option Nat := match xfe M.2.2.2.2.2 pc with
  | some (.anewarray ix) => xf3 gKL M.1 ix
  | _ => none
theorem gAC : Cond.arrayClass (newarray.typeOf .int) ∈ gTB ∧ Cond.arrayClass (newarray.typeOf .boolean) ∈ gTB ∧ Cond.arrayClass (newarray.typeOf .long) ∈ gTB := by decide +kernel
section XN
variable {l : Launch} {M : xM} {D : xD} {R : Room} {A : Nat → Prop} {Q : Array Value → State → Outcome → State → Prop} {mc ms pc pc' k n : Nat} {lv lv' : List (Nat × Value)} {st st' : List Value} {S S' : List va_W} {C : va_W} {a : Nat} {ce : va_E}
theorem Ex.ldc {v : Int32} (hg : xck M pc = some v) (kk : Ex l M D R A Q mc ms (pc + 2) lv (.int v :: st) S k n) : Ex l M D R A Q mc ms pc lv st S k n := by
  intro p e s m args below meth c H locs ls F hS hP hD hl
  obtain ⟨ho, hx, hb, -, -, hown, hts, -, hin, hK, hN, hX, hA, htb⟩ := id F
  unfold xck at hg
  split at hg
  · rename_i ix hf
    have hd := htb _ (xfe_mem _ _ _ hf)
    have h1 := List.all_eq_true.mp gCI_b _ (xf3_mem _ _ _ _ hg)
    simp only [decide_eq_true_eq, gON_D ho] at h1
    exact lv_ldc hx hb hown (hts _ h1) hd (kk p e s m args below meth c H locs ls F hS hP hD hl)
  · cases hg
theorem Ex.ldc2 {v : Int64} (hg : xcj M pc = some v) (kk : Ex l M D R A Q mc ms (pc + 3) lv (.long v :: st) S k n) : Ex l M D R A Q mc ms pc lv st S k n := by
  intro p e s m args below meth c H locs ls F hS hP hD hl
  obtain ⟨ho, hx, hb, -, -, hown, hts, -, hin, hK, hN, hX, hA, htb⟩ := id F
  unfold xcj at hg
  split at hg
  · rename_i ix hf
    have hd := htb _ (xfe_mem _ _ _ hf)
    have h1 := List.all_eq_true.mp gCJ_b _ (xf3_mem _ _ _ _ hg)
    simp only [decide_eq_true_eq, gON_D ho] at h1
    exact lv_ldc2 hx hb hown (hts _ h1) hd (kk p e s m args below meth c H locs ls F hS hP hD hl)
  · cases hg
theorem Ex.ldcS {t : Nat} (hg : xcs M pc = some t) (kk : Ex l M D R A Q mc ms (pc + 2) lv (.ref (D.2.2.2.1 t) :: st) S k n) : Ex l M D R A Q mc ms pc lv st S k n := by
  intro p e s m args below meth c H locs ls F hS hP hD hl
  obtain ⟨ho, hx, hb, -, -, hown, hts, -, hin, hK, hN, hX, hA, htb⟩ := id F
  unfold xcs at hg
  split at hg
  · rename_i ix hf
    have hd := htb _ (xfe_mem _ _ _ hf)
    have h1 := List.all_eq_true.mp gCS_b _ (xf3_mem _ _ _ _ hg)
    obtain ⟨z, hz, h2⟩ := List.any_eq_true.mp h1
    simp only [Bool.and_eq_true, decide_eq_true_eq, gON_D ho] at h2
    obtain ⟨⟨e1, e2⟩, e3⟩ := h2
    have hR := hN.2.2 z hz
    have e2 := Nat.eq_of_beq_eq_true e2
    have e3 := Nat.eq_of_beq_eq_true e3
    rw [e1, e2, e3] at hR
    exact va_ldcS hx hb hown hR hd (kk p e s m args below meth c H locs ls F hS hP hD hl)
  · cases hg
theorem Ex.new {ci N : Nat} (hg : xnw M pc = some ci) (hc : (gCL[ci]?).map (fun r => r.2.2) = some N) (h1 : k + 1 ≤ R.cells) (h2 : n + N ≤ R.slots) (kk : ∀ q : Nat, Ex l M D R A Q mc ms (pc + 3) lv (.ref q :: st) (S ++ [[(q, .inr (ci, gdf ci))]]) (k + 1) (n + N)) : Ex l M D R A Q mc ms pc lv st S k n := by
  intro p e s m args below meth c H locs ls F hS hP hD hl
  obtain ⟨ho, hx, hb, -, -, hown, hts, -, hin, hK, hN, hX, hA, htb⟩ := id F
  unfold xnw at hg
  split at hg
  · rename_i ix hf
    have hd := htb _ (xfe_mem _ _ _ hf)
    have h3 := List.all_eq_true.mp gKL_b _ (xf3_mem _ _ _ _ hg)
    cases hr : gCL[ci]? with
    | none => rw [hr] at hc; cases hc
    | some r =>
      rw [hr] at hc
      simp only [Option.map_some, Option.some.injEq] at hc
      subst hc
      have hok := gCL_ok r (List.mem_of_getElem? hr)
      simp only [decide_eq_true_eq, gON_D ho, gON_D (gNM_at hr)] at h3
      have hlt : ci < 13 := (List.getElem?_eq_some_iff.mp hr).1
      have hdf := gdf_b ci hlt
      rw [List.getD_eq_getElem?_getD, hr] at hdf
      refine va_new hx hb hts hok.1 (gty r) hok.2.1 hown (hts _ h3) (hts _ hok.2.2.2.1) (hts _ hok.2.2.2.2) hK hP hD hS hA hr hdf h1 h2 hd (fun q H1 hP1 hD1 hS1 => ?_)
      exact kk q p e s m args below meth c H1 locs ls F hS1 (by simpa using hP1) (by simpa using hD1) hl
  · cases hg
theorem Ex.newi {x : Int32} {N : Nat} (hf : xfe M.2.2.2.2.2 pc = some (.newarray .int)) (hx9 : x.toInt = N) (hN9 : N ≤ 1000000) (h1 : k + 1 ≤ R.cells) (h2 : n + N ≤ R.slots) (kk : ∀ q : Nat, Ex l M D R A Q mc ms (pc + 2) lv (.ref q :: st) (S ++ [[(q, .inl (D.2.2.1 0, N, .inl (fun _ => 0)))]]) (k + 1) (n + N)) : Ex l M D R A Q mc ms pc lv (.int x :: st) S k n := by
  intro p e s m args below meth c H locs ls F hS hP hD hl
  obtain ⟨ho, hx, hb, -, -, hown, hts, -, hin, hK, hN, hX, hA, htb⟩ := id F
  have hd := htb _ (xfe_mem _ _ _ hf)
  have h3 : Cond.arrayClass (newarray.typeOf .int) ∈ gTB := gAC.1
  refine va_newa (atype := .int) hx hb (hts _ h3) rfl hK hP hD hS hA (N' := N) (a0 := (N, .inl (fun _ => 0))) (fun _ => rfl) (by rw [Int32.lt_iff_toInt_lt, hx9]; simp) (clamp_int hx9) (by show N * 4 ≤ 536870912; omega) h1 h2 hd (fun q cA H1 hK1 hP1 hD1 hS1 => ?_)
  have e1 : s.vm.findClass ("[" ++ (FieldType.int).toString) = some cA := (hK1.2 6 _ rfl).2
  have e2 : s.vm.findClass ("[" ++ (FieldType.int).toString) = some (D.2.2.1 0) := (hK.2 0 _ rfl).2
  have e3 : cA = D.2.2.1 0 := Option.some.inj (e1.symm.trans e2)
  subst e3
  exact kk q p e s m args below meth c H1 locs ls F hS1 (by simpa using hP1) (by simpa using hD1) hl
theorem Ex.newz {x : Int32} {N : Nat} (hf : xfe M.2.2.2.2.2 pc = some (.newarray .boolean)) (hx9 : x.toInt = N) (hN9 : N ≤ 1000000) (h1 : k + 1 ≤ R.cells) (h2 : n + N ≤ R.slots) (kk : ∀ q : Nat, Ex l M D R A Q mc ms (pc + 2) lv (.ref q :: st) (S ++ [[(q, .inl (D.2.2.1 1, N, .inl (fun _ => 0)))]]) (k + 1) (n + N)) : Ex l M D R A Q mc ms pc lv (.int x :: st) S k n := by
  intro p e s m args below meth c H locs ls F hS hP hD hl
  obtain ⟨ho, hx, hb, -, -, hown, hts, -, hin, hK, hN, hX, hA, htb⟩ := id F
  have hd := htb _ (xfe_mem _ _ _ hf)
  have h3 : Cond.arrayClass (newarray.typeOf .boolean) ∈ gTB := gAC.2.1
  refine va_newa (atype := .boolean) hx hb (hts _ h3) rfl hK hP hD hS hA (N' := N) (a0 := (N, .inl (fun _ => 0))) (fun _ => rfl) (by rw [Int32.lt_iff_toInt_lt, hx9]; simp) (clamp_int hx9) (by show N * 1 ≤ 536870912; omega) h1 h2 hd (fun q cA H1 hK1 hP1 hD1 hS1 => ?_)
  have e1 : s.vm.findClass ("[" ++ (FieldType.boolean).toString) = some cA := (hK1.2 6 _ rfl).2
  have e2 : s.vm.findClass ("[" ++ (FieldType.boolean).toString) = some (D.2.2.1 1) := (hK.2 1 _ rfl).2
  have e3 : cA = D.2.2.1 1 := Option.some.inj (e1.symm.trans e2)
  subst e3
  exact kk q p e s m args below meth c H1 locs ls F hS1 (by simpa using hP1) (by simpa using hD1) hl
theorem Ex.newl {x : Int32} {N : Nat} (hf : xfe M.2.2.2.2.2 pc = some (.newarray .long)) (hx9 : x.toInt = N) (hN9 : N ≤ 1000000) (h1 : k + 1 ≤ R.cells) (h2 : n + N ≤ R.slots) (kk : ∀ q : Nat, Ex l M D R A Q mc ms (pc + 2) lv (.ref q :: st) (S ++ [[(q, .inl (D.2.2.1 2, N, .inr (.inl (fun _ => 0))))]]) (k + 1) (n + N)) : Ex l M D R A Q mc ms pc lv (.int x :: st) S k n := by
  intro p e s m args below meth c H locs ls F hS hP hD hl
  obtain ⟨ho, hx, hb, -, -, hown, hts, -, hin, hK, hN, hX, hA, htb⟩ := id F
  have hd := htb _ (xfe_mem _ _ _ hf)
  have h3 : Cond.arrayClass (newarray.typeOf .long) ∈ gTB := gAC.2.2
  refine va_newa (atype := .long) hx hb (hts _ h3) rfl hK hP hD hS hA (N' := N) (a0 := (N, .inr (.inl (fun _ => 0)))) (fun _ => rfl) (by rw [Int32.lt_iff_toInt_lt, hx9]; simp) (clamp_int hx9) (by show N * 8 ≤ 536870912; omega) h1 h2 hd (fun q cA H1 hK1 hP1 hD1 hS1 => ?_)
  have e1 : s.vm.findClass ("[" ++ (FieldType.long).toString) = some cA := (hK1.2 6 _ rfl).2
  have e2 : s.vm.findClass ("[" ++ (FieldType.long).toString) = some (D.2.2.1 2) := (hK.2 2 _ rfl).2
  have e3 : cA = D.2.2.1 2 := Option.some.inj (e1.symm.trans e2)
  subst e3
  exact kk q p e s m args below meth c H1 locs ls F hS1 (by simpa using hP1) (by simpa using hD1) hl
theorem Ex.newa {x : Int32} {N ci t0 : Nat} {cn : String} (hg : xan M pc = some ci) (hcn : gON[ci]? = some cn) (hao : cn ∈ gAO) (hc : ci < 13) (ht : (gTY D)[t0]? = some (D.2.2.1 t0, .object cn)) (hx9 : x.toInt = N) (hN9 : N ≤ 1000000) (h1 : k + 1 ≤ R.cells) (h2 : n + N ≤ R.slots) (kk : ∀ q : Nat, Ex l M D R A Q mc ms (pc + 3) lv (.ref q :: st) (S ++ [[(q, .inl (D.2.2.1 t0, N, .inr (.inr (.inr (.inr (fun _ => none))))))]]) (k + 1) (n + N)) : Ex l M D R A Q mc ms pc lv (.int x :: st) S k n := by
  intro p e s m args below meth c H locs ls F hS hP hD hl
  obtain ⟨ho, hx, hb, -, -, hown, hts, -, hin, hK, hN, hX, hA, htb⟩ := id F
  unfold xan at hg
  split at hg
  · rename_i ix hf
    have hd := htb _ (xfe_mem _ _ _ hf)
    have h3 := List.all_eq_true.mp gKL_b _ (xf3_mem _ _ _ _ hg)
    simp only [decide_eq_true_eq, gON_D ho, gON_D hcn] at h3
    refine va_newq hx hb hown (hts _ h3) (hN.2.1 _ hao) hK hP hD hS hA (N' := N) (by rw [Int32.lt_iff_toInt_lt, hx9]; simp) (clamp_int hx9) (by omega) h1 h2 hd (fun q cA H1 hK1 hP1 hD1 hS1 => ?_)
    obtain ⟨_, _, -, -, -, e1⟩ := (hK1.2 6 _ rfl).2
    obtain ⟨_, _, -, -, -, e2⟩ := (hK.2 t0 _ ht).2
    have e3 : cA = D.2.2.1 t0 := Option.some.inj (e1.symm.trans e2)
    subst e3
    exact kk q p e s m args below meth c H1 locs ls F hS1 (by simpa using hP1) (by simpa using hD1) hl
  · cases hg
end XN
end
section
/-! OWN FRAME 7: ends and switches -/
section XN
variable {l : Launch} {M : xM} {D : xD} {R : Room} {A : Nat → Prop} {Q : Array Value → State → Outcome → State → Prop} {mc ms pc pc' k n : Nat} {lv lv' : List (Nat × Value)} {st st' : List Value} {S S' : List va_W} {C : va_W} {a : Nat} {ce : va_E}
theorem Ex.iret {v : Int32} {Q0 : Option Value → List va_W → Prop} (hf : xfe M.2.2.2.2.2 pc = some .ireturn) (hr9 : M.2.2.2.2.1 = some .int) (hk : k ≤ mc) (hn : n ≤ ms) (hS9 : S.flatten = S'.flatten) (hq : Q0 (some (.int v)) S') : Ex l M D R A (xQ D A Q0) mc ms pc lv [.int v] S k n := by
  intro p e s m args below meth c H locs ls F hS hP hD hl
  obtain ⟨ho, hx, hb, -, hr, hown, hts, hlocks, hin, hK, hN, hX, hA, htb⟩ := id F
  have hd := htb _ (xfe_mem _ _ _ hf)
  refine W.widen hk hn ?_
  rw [hS9] at hP hD
  exact W.x (W.iret hx hb (hr.trans hr9) (fun t ht hW => ⟨⟨_, S', rfl, hq, by rw [ht]; exact hP, hD⟩, hS.F ht⟩) hS.2.2 hd)
theorem Ex.lret {v : Int64} {Q0 : Option Value → List va_W → Prop} (hf : xfe M.2.2.2.2.2 pc = some .lreturn) (hr9 : M.2.2.2.2.1 = some .long) (hk : k ≤ mc) (hn : n ≤ ms) (hS9 : S.flatten = S'.flatten) (hq : Q0 (some (.long v)) S') : Ex l M D R A (xQ D A Q0) mc ms pc lv [.long v] S k n := by
  intro p e s m args below meth c H locs ls F hS hP hD hl
  obtain ⟨ho, hx, hb, -, hr, hown, hts, hlocks, hin, hK, hN, hX, hA, htb⟩ := id F
  have hd := htb _ (xfe_mem _ _ _ hf)
  refine W.widen hk hn ?_
  rw [hS9] at hP hD
  exact W.x (W.lret hx hb (hr.trans hr9) (fun t ht hW => ⟨⟨_, S', rfl, hq, by rw [ht]; exact hP, hD⟩, hS.F ht⟩) hS.2.2 hd)
theorem Ex.vret {Q0 : Option Value → List va_W → Prop} (hf : xfe M.2.2.2.2.2 pc = some .return_) (hr9 : M.2.2.2.2.1 = none) (hk : k ≤ mc) (hn : n ≤ ms) (hS9 : S.flatten = S'.flatten) (hq : Q0 (none) S') : Ex l M D R A (xQ D A Q0) mc ms pc lv [] S k n := by
  intro p e s m args below meth c H locs ls F hS hP hD hl
  obtain ⟨ho, hx, hb, -, hr, hown, hts, hlocks, hin, hK, hN, hX, hA, htb⟩ := id F
  have hd := htb _ (xfe_mem _ _ _ hf)
  refine W.widen hk hn ?_
  rw [hS9] at hP hD
  exact W.x (W.vret hx hb (hr.trans hr9) (fun t ht hW => ⟨⟨_, S', rfl, hq, by rw [ht]; exact hP, hD⟩, hS.F ht⟩) hS.2.2 hd)
theorem Ex.zret {v : Int32} {Q0 : Option Value → List va_W → Prop} (hf : xfe M.2.2.2.2.2 pc = some .ireturn) (hr9 : M.2.2.2.2.1 = some .boolean) (hv : v = 0 ∨ v = 1) (hk : k ≤ mc) (hn : n ≤ ms) (hS9 : S.flatten = S'.flatten) (hq : Q0 (some (.int v)) S') : Ex l M D R A (xQ D A Q0) mc ms pc lv [.int v] S k n := by
  intro p e s m args below meth c H locs ls F hS hP hD hl
  obtain ⟨ho, hx, hb, -, hr, hown, hts, hlocks, hin, hK, hN, hX, hA, htb⟩ := id F
  have hd := htb _ (xfe_mem _ _ _ hf)
  refine W.widen hk hn ?_
  rw [hS9] at hP hD
  exact W.x (W.zret hx hb (hr.trans hr9) (by rcases hv with rfl | rfl <;> decide) (fun t ht hW => ⟨⟨_, S', rfl, hq, by rw [ht]; exact hP, hD⟩, hS.F ht⟩) hS.2.2 hd)
theorem Ex.aret {v : Value} {cn : String} {Q0 : Option Value → List va_W → Prop} (hf : xfe M.2.2.2.2.2 pc = some .areturn) (hr9 : M.2.2.2.2.1 = some (.object cn)) (hv : v = .null ∨ ∃ a, v = .ref a) (hk : k ≤ mc) (hn : n ≤ ms) (hS9 : S.flatten = S'.flatten) (hq : Q0 (some v) S') : Ex l M D R A (xQ D A Q0) mc ms pc lv [v] S k n := by
  intro p e s m args below meth c H locs ls F hS hP hD hl
  obtain ⟨ho, hx, hb, -, hr, hown, hts, hlocks, hin, hK, hN, hX, hA, htb⟩ := id F
  have hd := htb _ (xfe_mem _ _ _ hf)
  refine W.widen hk hn ?_
  rw [hS9] at hP hD
  exact W.x (W.aret hx hb (hr.trans hr9) (Or.inl ⟨_, rfl⟩) hv (fun t ht hW => ⟨⟨_, S', rfl, hq, by rw [ht]; exact hP, hD⟩, hS.F ht⟩) hS.2.2 hd)
theorem Ex.swO {dflt lo hi : Int} {offs : Array Int} {len t : Nat} {x : Int32} (hd : decode M.2.2.1 pc = .ok (.tableswitch dflt lo hi offs, len)) (h : x.toInt < lo ∨ hi < x.toInt) (ht : (pc : Int) + dflt = (t : Int)) (kk : Ex l M D R A Q mc ms t lv st S k n) : Ex l M D R A Q mc ms pc lv (.int x :: st) S k n := by
  intro p e s m args below meth c H locs ls F hS hP hD hl
  obtain ⟨ho, hx, hb, -, -, hown, hts, -, hin, hK, hN, hX, hA, htb⟩ := id F
  exact lv_tableOut hx hb hd h ht (kk p e s m args below meth c H locs ls F hS hP hD hl)
theorem Ex.swI {dflt lo hi off : Int} {offs : Array Int} {len t : Nat} {x : Int32} (hd : decode M.2.2.1 pc = .ok (.tableswitch dflt lo hi offs, len)) (h1 : ¬ x.toInt < lo) (h2 : ¬ hi < x.toInt) (ho : offs[(x.toInt - lo).toNat]? = some off) (ht : (pc : Int) + off = (t : Int)) (kk : Ex l M D R A Q mc ms t lv st S k n) : Ex l M D R A Q mc ms pc lv (.int x :: st) S k n := by
  intro p e s m args below meth c H locs ls F hS hP hD hl
  obtain ⟨hoo, hx, hb, -, -, hown, hts, -, hin, hK, hN, hX, hA, htb⟩ := id F
  exact lv_tableIn hx hb hd h1 h2 ho ht (kk p e s m args below meth c H locs ls F hS hP hD hl)
end XN
end
