-- ===== PART A: goes FIRST, ahead of the names: the tables' words, and 'selects' of the private methods out of them =====
/-- a private method of a class that the tables say can be made, by its rows of tables_1 -/
def lw_okq (q : MethodName × Nat) : Prop := (q.1.cls ≠ "java/lang/invoke/MethodHandle" ∧ q.1.cls ≠ "java/lang/invoke/VarHandle") ∧ Cond.instantiable q.1.cls q.2 ∈ tables_1 ∧ Cond.privateMethod q.1 ∈ tables_1 ∧ Cond.instanceMethod q.1 ∈ tables_1
theorem lw_p0 : lw_okq (⟨"TreePress", "keepNumber", "(I)V"⟩, 12) := ⟨⟨by decide +kernel, by decide +kernel⟩, List.mem_of_getElem? (i := 22) (by decide +kernel), List.mem_of_getElem? (i := 612) (by decide +kernel), List.mem_of_getElem? (i := 613) (by decide +kernel)⟩
theorem lw_p1 : lw_okq (⟨"TreePress$Names", "isThat", "(ILTreePress$Cursor;)Z"⟩, 8) := ⟨⟨by decide +kernel, by decide +kernel⟩, List.mem_of_getElem? (i := 299) (by decide +kernel), List.mem_of_getElem? (i := 767) (by decide +kernel), List.mem_of_getElem? (i := 768) (by decide +kernel)⟩
theorem lw_p2 : lw_okq (⟨"TreePress$DeclarationReader", "readElement", "(LTreePress$Doc;I)Z"⟩, 10) := ⟨⟨by decide +kernel, by decide +kernel⟩, List.mem_of_getElem? (i := 74) (by decide +kernel), List.mem_of_getElem? (i := 777) (by decide +kernel), List.mem_of_getElem? (i := 778) (by decide +kernel)⟩
theorem lw_p3 : lw_okq (⟨"TreePress$DeclarationReader", "readMixed", "(LTreePress$Doc;I)Z"⟩, 10) := ⟨⟨by decide +kernel, by decide +kernel⟩, List.mem_of_getElem? (i := 74) (by decide +kernel), List.mem_of_getElem? (i := 794) (by decide +kernel), List.mem_of_getElem? (i := 795) (by decide +kernel)⟩
theorem lw_p4 : lw_okq (⟨"TreePress$DeclarationReader", "readPlace", "(LTreePress$Doc;I)Z"⟩, 10) := ⟨⟨by decide +kernel, by decide +kernel⟩, List.mem_of_getElem? (i := 74) (by decide +kernel), List.mem_of_getElem? (i := 799) (by decide +kernel), List.mem_of_getElem? (i := 800) (by decide +kernel)⟩
theorem lw_p5 : lw_okq (⟨"TreePress$DeclarationReader", "readGroup", "(LTreePress$Doc;I)Z"⟩, 10) := ⟨⟨by decide +kernel, by decide +kernel⟩, List.mem_of_getElem? (i := 74) (by decide +kernel), List.mem_of_getElem? (i := 814) (by decide +kernel), List.mem_of_getElem? (i := 815) (by decide +kernel)⟩
theorem lw_p6 : lw_okq (⟨"TreePress$DeclarationReader", "openGroup", "()V"⟩, 10) := ⟨⟨by decide +kernel, by decide +kernel⟩, List.mem_of_getElem? (i := 74) (by decide +kernel), List.mem_of_getElem? (i := 818) (by decide +kernel), List.mem_of_getElem? (i := 819) (by decide +kernel)⟩
theorem lw_p7 : lw_okq (⟨"TreePress$DeclarationReader", "readSign", "()Z"⟩, 10) := ⟨⟨by decide +kernel, by decide +kernel⟩, List.mem_of_getElem? (i := 74) (by decide +kernel), List.mem_of_getElem? (i := 822) (by decide +kernel), List.mem_of_getElem? (i := 823) (by decide +kernel)⟩
theorem lw_p8 : lw_okq (⟨"TreePress$DeclarationReader", "closeGroup", "()V"⟩, 10) := ⟨⟨by decide +kernel, by decide +kernel⟩, List.mem_of_getElem? (i := 74) (by decide +kernel), List.mem_of_getElem? (i := 827) (by decide +kernel), List.mem_of_getElem? (i := 828) (by decide +kernel)⟩
theorem lw_p9 : lw_okq (⟨"TreePress$DeclarationReader", "endPart", "(LTreePress$Specs;I)V"⟩, 10) := ⟨⟨by decide +kernel, by decide +kernel⟩, List.mem_of_getElem? (i := 74) (by decide +kernel), List.mem_of_getElem? (i := 831) (by decide +kernel), List.mem_of_getElem? (i := 832) (by decide +kernel)⟩
theorem lw_p10 : lw_okq (⟨"TreePress$DeclarationReader", "joinPart", "(LTreePress$Specs;II)V"⟩, 10) := ⟨⟨by decide +kernel, by decide +kernel⟩, List.mem_of_getElem? (i := 74) (by decide +kernel), List.mem_of_getElem? (i := 841) (by decide +kernel), List.mem_of_getElem? (i := 842) (by decide +kernel)⟩
theorem lw_p11 : lw_okq (⟨"TreePress$DeclarationReader", "readAttlist", "(LTreePress$Doc;)Z"⟩, 10) := ⟨⟨by decide +kernel, by decide +kernel⟩, List.mem_of_getElem? (i := 74) (by decide +kernel), List.mem_of_getElem? (i := 847) (by decide +kernel), List.mem_of_getElem? (i := 848) (by decide +kernel)⟩
theorem lw_p12 : lw_okq (⟨"TreePress$DeclarationReader", "readType", "(LTreePress$Rules;I)Z"⟩, 10) := ⟨⟨by decide +kernel, by decide +kernel⟩, List.mem_of_getElem? (i := 74) (by decide +kernel), List.mem_of_getElem? (i := 873) (by decide +kernel), List.mem_of_getElem? (i := 874) (by decide +kernel)⟩
theorem lw_p13 : lw_okq (⟨"TreePress$DeclarationReader", "readTokens", "(LTreePress$Rules;I)Z"⟩, 10) := ⟨⟨by decide +kernel, by decide +kernel⟩, List.mem_of_getElem? (i := 74) (by decide +kernel), List.mem_of_getElem? (i := 879) (by decide +kernel), List.mem_of_getElem? (i := 880) (by decide +kernel)⟩
theorem lw_p14 : lw_okq (⟨"TreePress$DeclarationReader", "readDefault", "(LTreePress$Doc;I)Z"⟩, 10) := ⟨⟨by decide +kernel, by decide +kernel⟩, List.mem_of_getElem? (i := 74) (by decide +kernel), List.mem_of_getElem? (i := 888) (by decide +kernel), List.mem_of_getElem? (i := 889) (by decide +kernel)⟩
theorem lw_p15 : lw_okq (⟨"TreePress$Cursor", "takeNumbered", "()I"⟩, 7) := ⟨⟨by decide +kernel, by decide +kernel⟩, List.mem_of_getElem? (i := 30) (by decide +kernel), List.mem_of_getElem? (i := 908) (by decide +kernel), List.mem_of_getElem? (i := 909) (by decide +kernel)⟩
def lw_privs_1 : List (MethodName × Nat) := [(⟨"TreePress", "keepNumber", "(I)V"⟩, 12), (⟨"TreePress$Names", "isThat", "(ILTreePress$Cursor;)Z"⟩, 8), (⟨"TreePress$DeclarationReader", "readElement", "(LTreePress$Doc;I)Z"⟩, 10), (⟨"TreePress$DeclarationReader", "readMixed", "(LTreePress$Doc;I)Z"⟩, 10), (⟨"TreePress$DeclarationReader", "readPlace", "(LTreePress$Doc;I)Z"⟩, 10), (⟨"TreePress$DeclarationReader", "readGroup", "(LTreePress$Doc;I)Z"⟩, 10), (⟨"TreePress$DeclarationReader", "openGroup", "()V"⟩, 10), (⟨"TreePress$DeclarationReader", "readSign", "()Z"⟩, 10), (⟨"TreePress$DeclarationReader", "closeGroup", "()V"⟩, 10), (⟨"TreePress$DeclarationReader", "endPart", "(LTreePress$Specs;I)V"⟩, 10), (⟨"TreePress$DeclarationReader", "joinPart", "(LTreePress$Specs;II)V"⟩, 10), (⟨"TreePress$DeclarationReader", "readAttlist", "(LTreePress$Doc;)Z"⟩, 10), (⟨"TreePress$DeclarationReader", "readType", "(LTreePress$Rules;I)Z"⟩, 10), (⟨"TreePress$DeclarationReader", "readTokens", "(LTreePress$Rules;I)Z"⟩, 10), (⟨"TreePress$DeclarationReader", "readDefault", "(LTreePress$Doc;I)Z"⟩, 10), (⟨"TreePress$Cursor", "takeNumbered", "()I"⟩, 7)]
theorem lw_r1 : ∀ q ∈ lw_privs_1, lw_okq q := List.forall_mem_cons.mpr ⟨lw_p0, List.forall_mem_cons.mpr ⟨lw_p1, List.forall_mem_cons.mpr ⟨lw_p2, List.forall_mem_cons.mpr ⟨lw_p3, List.forall_mem_cons.mpr ⟨lw_p4, List.forall_mem_cons.mpr ⟨lw_p5, List.forall_mem_cons.mpr ⟨lw_p6, List.forall_mem_cons.mpr ⟨lw_p7, List.forall_mem_cons.mpr ⟨lw_p8, List.forall_mem_cons.mpr ⟨lw_p9, List.forall_mem_cons.mpr ⟨lw_p10, List.forall_mem_cons.mpr ⟨lw_p11, List.forall_mem_cons.mpr ⟨lw_p12, List.forall_mem_cons.mpr ⟨lw_p13, List.forall_mem_cons.mpr ⟨lw_p14, List.forall_mem_cons.mpr ⟨lw_p15, fun _ h => absurd h List.not_mem_nil⟩⟩⟩⟩⟩⟩⟩⟩⟩⟩⟩⟩⟩⟩⟩⟩
theorem lw_p16 : lw_okq (⟨"TreePress$Doc", "isFull", "()Z"⟩, 19) := ⟨⟨by decide +kernel, by decide +kernel⟩, List.mem_of_getElem? (i := 293) (by decide +kernel), List.mem_of_getElem? (i := 919) (by decide +kernel), List.mem_of_getElem? (i := 920) (by decide +kernel)⟩
theorem lw_p17 : lw_okq (⟨"TreePress$Doc", "countIn", "(II)V"⟩, 19) := ⟨⟨by decide +kernel, by decide +kernel⟩, List.mem_of_getElem? (i := 293) (by decide +kernel), List.mem_of_getElem? (i := 935) (by decide +kernel), List.mem_of_getElem? (i := 936) (by decide +kernel)⟩
theorem lw_p18 : lw_okq (⟨"TreePress$TreeReader", "readTag", "(LTreePress$Doc;)Z"⟩, 3) := ⟨⟨by decide +kernel, by decide +kernel⟩, List.mem_of_getElem? (i := 113) (by decide +kernel), List.mem_of_getElem? (i := 941) (by decide +kernel), List.mem_of_getElem? (i := 942) (by decide +kernel)⟩
theorem lw_p19 : lw_okq (⟨"TreePress$TreeReader", "readAttribute", "(LTreePress$Doc;)Z"⟩, 3) := ⟨⟨by decide +kernel, by decide +kernel⟩, List.mem_of_getElem? (i := 113) (by decide +kernel), List.mem_of_getElem? (i := 950) (by decide +kernel), List.mem_of_getElem? (i := 951) (by decide +kernel)⟩
theorem lw_p20 : lw_okq (⟨"TreePress$TreeReader", "addAttribute", "(LTreePress$Doc;I)I"⟩, 3) := ⟨⟨by decide +kernel, by decide +kernel⟩, List.mem_of_getElem? (i := 113) (by decide +kernel), List.mem_of_getElem? (i := 958) (by decide +kernel), List.mem_of_getElem? (i := 959) (by decide +kernel)⟩
theorem lw_p21 : lw_okq (⟨"TreePress$TreeReader", "addDefaults", "(LTreePress$Doc;)Z"⟩, 3) := ⟨⟨by decide +kernel, by decide +kernel⟩, List.mem_of_getElem? (i := 113) (by decide +kernel), List.mem_of_getElem? (i := 968) (by decide +kernel), List.mem_of_getElem? (i := 969) (by decide +kernel)⟩
theorem lw_p22 : lw_okq (⟨"TreePress$TreeReader", "leave", "(LTreePress$Doc;)V"⟩, 3) := ⟨⟨by decide +kernel, by decide +kernel⟩, List.mem_of_getElem? (i := 113) (by decide +kernel), List.mem_of_getElem? (i := 977) (by decide +kernel), List.mem_of_getElem? (i := 978) (by decide +kernel)⟩
theorem lw_p23 : lw_okq (⟨"TreePress$TreeReader", "readEndTag", "(LTreePress$Doc;)Z"⟩, 3) := ⟨⟨by decide +kernel, by decide +kernel⟩, List.mem_of_getElem? (i := 113) (by decide +kernel), List.mem_of_getElem? (i := 986) (by decide +kernel), List.mem_of_getElem? (i := 987) (by decide +kernel)⟩
theorem lw_p24 : lw_okq (⟨"TreePress$TreeReader", "readText", "(LTreePress$Doc;)Z"⟩, 3) := ⟨⟨by decide +kernel, by decide +kernel⟩, List.mem_of_getElem? (i := 113) (by decide +kernel), List.mem_of_getElem? (i := 993) (by decide +kernel), List.mem_of_getElem? (i := 994) (by decide +kernel)⟩
theorem lw_p25 : lw_okq (⟨"TreePress$Judge", "judgeDeclarations", "(LTreePress$Doc;)V"⟩, 4) := ⟨⟨by decide +kernel, by decide +kernel⟩, List.mem_of_getElem? (i := 129) (by decide +kernel), List.mem_of_getElem? (i := 1012) (by decide +kernel), List.mem_of_getElem? (i := 1013) (by decide +kernel)⟩
theorem lw_p26 : lw_okq (⟨"TreePress$Judge", "judgeRule", "(LTreePress$Doc;I)V"⟩, 4) := ⟨⟨by decide +kernel, by decide +kernel⟩, List.mem_of_getElem? (i := 129) (by decide +kernel), List.mem_of_getElem? (i := 1016) (by decide +kernel), List.mem_of_getElem? (i := 1017) (by decide +kernel)⟩
theorem lw_p27 : lw_okq (⟨"TreePress$Judge", "hasEarlierId", "(LTreePress$Doc;I)Z"⟩, 4) := ⟨⟨by decide +kernel, by decide +kernel⟩, List.mem_of_getElem? (i := 129) (by decide +kernel), List.mem_of_getElem? (i := 1021) (by decide +kernel), List.mem_of_getElem? (i := 1022) (by decide +kernel)⟩
theorem lw_p28 : lw_okq (⟨"TreePress$Judge", "report", "(II)V"⟩, 4) := ⟨⟨by decide +kernel, by decide +kernel⟩, List.mem_of_getElem? (i := 129) (by decide +kernel), List.mem_of_getElem? (i := 1026) (by decide +kernel), List.mem_of_getElem? (i := 1027) (by decide +kernel)⟩
theorem lw_p29 : lw_okq (⟨"TreePress$Judge", "isOfType", "(LTreePress$Doc;III)Z"⟩, 4) := ⟨⟨by decide +kernel, by decide +kernel⟩, List.mem_of_getElem? (i := 129) (by decide +kernel), List.mem_of_getElem? (i := 1030) (by decide +kernel), List.mem_of_getElem? (i := 1031) (by decide +kernel)⟩
theorem lw_p30 : lw_okq (⟨"TreePress$Judge", "isName", "(LTreePress$Doc;II)Z"⟩, 4) := ⟨⟨by decide +kernel, by decide +kernel⟩, List.mem_of_getElem? (i := 129) (by decide +kernel), List.mem_of_getElem? (i := 1034) (by decide +kernel), List.mem_of_getElem? (i := 1035) (by decide +kernel)⟩
theorem lw_p31 : lw_okq (⟨"TreePress$Judge", "isToken", "(LTreePress$Doc;III)Z"⟩, 4) := ⟨⟨by decide +kernel, by decide +kernel⟩, List.mem_of_getElem? (i := 129) (by decide +kernel), List.mem_of_getElem? (i := 1040) (by decide +kernel), List.mem_of_getElem? (i := 1041) (by decide +kernel)⟩
def lw_privs_2 : List (MethodName × Nat) := [(⟨"TreePress$Doc", "isFull", "()Z"⟩, 19), (⟨"TreePress$Doc", "countIn", "(II)V"⟩, 19), (⟨"TreePress$TreeReader", "readTag", "(LTreePress$Doc;)Z"⟩, 3), (⟨"TreePress$TreeReader", "readAttribute", "(LTreePress$Doc;)Z"⟩, 3), (⟨"TreePress$TreeReader", "addAttribute", "(LTreePress$Doc;I)I"⟩, 3), (⟨"TreePress$TreeReader", "addDefaults", "(LTreePress$Doc;)Z"⟩, 3), (⟨"TreePress$TreeReader", "leave", "(LTreePress$Doc;)V"⟩, 3), (⟨"TreePress$TreeReader", "readEndTag", "(LTreePress$Doc;)Z"⟩, 3), (⟨"TreePress$TreeReader", "readText", "(LTreePress$Doc;)Z"⟩, 3), (⟨"TreePress$Judge", "judgeDeclarations", "(LTreePress$Doc;)V"⟩, 4), (⟨"TreePress$Judge", "judgeRule", "(LTreePress$Doc;I)V"⟩, 4), (⟨"TreePress$Judge", "hasEarlierId", "(LTreePress$Doc;I)Z"⟩, 4), (⟨"TreePress$Judge", "report", "(II)V"⟩, 4), (⟨"TreePress$Judge", "isOfType", "(LTreePress$Doc;III)Z"⟩, 4), (⟨"TreePress$Judge", "isName", "(LTreePress$Doc;II)Z"⟩, 4), (⟨"TreePress$Judge", "isToken", "(LTreePress$Doc;III)Z"⟩, 4)]
theorem lw_r2 : ∀ q ∈ lw_privs_2, lw_okq q := List.forall_mem_cons.mpr ⟨lw_p16, List.forall_mem_cons.mpr ⟨lw_p17, List.forall_mem_cons.mpr ⟨lw_p18, List.forall_mem_cons.mpr ⟨lw_p19, List.forall_mem_cons.mpr ⟨lw_p20, List.forall_mem_cons.mpr ⟨lw_p21, List.forall_mem_cons.mpr ⟨lw_p22, List.forall_mem_cons.mpr ⟨lw_p23, List.forall_mem_cons.mpr ⟨lw_p24, List.forall_mem_cons.mpr ⟨lw_p25, List.forall_mem_cons.mpr ⟨lw_p26, List.forall_mem_cons.mpr ⟨lw_p27, List.forall_mem_cons.mpr ⟨lw_p28, List.forall_mem_cons.mpr ⟨lw_p29, List.forall_mem_cons.mpr ⟨lw_p30, List.forall_mem_cons.mpr ⟨lw_p31, fun _ h => absurd h List.not_mem_nil⟩⟩⟩⟩⟩⟩⟩⟩⟩⟩⟩⟩⟩⟩⟩⟩
theorem lw_p32 : lw_okq (⟨"TreePress$Judge", "judgeSpec", "(LTreePress$Doc;I)V"⟩, 4) := ⟨⟨by decide +kernel, by decide +kernel⟩, List.mem_of_getElem? (i := 129) (by decide +kernel), List.mem_of_getElem? (i := 1044) (by decide +kernel), List.mem_of_getElem? (i := 1045) (by decide +kernel)⟩
theorem lw_p33 : lw_okq (⟨"TreePress$Judge", "judgeElement", "(LTreePress$Doc;I)V"⟩, 4) := ⟨⟨by decide +kernel, by decide +kernel⟩, List.mem_of_getElem? (i := 129) (by decide +kernel), List.mem_of_getElem? (i := 1062) (by decide +kernel), List.mem_of_getElem? (i := 1063) (by decide +kernel)⟩
theorem lw_p34 : lw_okq (⟨"TreePress$Judge", "fits", "(LTreePress$Doc;II)Z"⟩, 4) := ⟨⟨by decide +kernel, by decide +kernel⟩, List.mem_of_getElem? (i := 129) (by decide +kernel), List.mem_of_getElem? (i := 1066) (by decide +kernel), List.mem_of_getElem? (i := 1067) (by decide +kernel)⟩
theorem lw_p35 : lw_okq (⟨"TreePress$Judge", "fitsGroup", "(LTreePress$Doc;II)Z"⟩, 4) := ⟨⟨by decide +kernel, by decide +kernel⟩, List.mem_of_getElem? (i := 129) (by decide +kernel), List.mem_of_getElem? (i := 1070) (by decide +kernel), List.mem_of_getElem? (i := 1071) (by decide +kernel)⟩
theorem lw_p36 : lw_okq (⟨"TreePress$Judge", "fitsLoosely", "(LTreePress$Doc;II)Z"⟩, 4) := ⟨⟨by decide +kernel, by decide +kernel⟩, List.mem_of_getElem? (i := 129) (by decide +kernel), List.mem_of_getElem? (i := 1084) (by decide +kernel), List.mem_of_getElem? (i := 1085) (by decide +kernel)⟩
theorem lw_p37 : lw_okq (⟨"TreePress$Judge", "judgeAttribute", "(LTreePress$Doc;II)V"⟩, 4) := ⟨⟨by decide +kernel, by decide +kernel⟩, List.mem_of_getElem? (i := 129) (by decide +kernel), List.mem_of_getElem? (i := 1089) (by decide +kernel), List.mem_of_getElem? (i := 1090) (by decide +kernel)⟩
theorem lw_p38 : lw_okq (⟨"TreePress$Judge", "isAsFixed", "(LTreePress$Doc;II)Z"⟩, 4) := ⟨⟨by decide +kernel, by decide +kernel⟩, List.mem_of_getElem? (i := 129) (by decide +kernel), List.mem_of_getElem? (i := 1093) (by decide +kernel), List.mem_of_getElem? (i := 1094) (by decide +kernel)⟩
theorem lw_p39 : lw_okq (⟨"TreePress$Judge", "sameValue", "(LTreePress$Doc;III)Z"⟩, 4) := ⟨⟨by decide +kernel, by decide +kernel⟩, List.mem_of_getElem? (i := 129) (by decide +kernel), List.mem_of_getElem? (i := 1097) (by decide +kernel), List.mem_of_getElem? (i := 1098) (by decide +kernel)⟩
theorem lw_p40 : lw_okq (⟨"TreePress$Judge", "isTaken", "(LTreePress$Doc;I)Z"⟩, 4) := ⟨⟨by decide +kernel, by decide +kernel⟩, List.mem_of_getElem? (i := 129) (by decide +kernel), List.mem_of_getElem? (i := 1105) (by decide +kernel), List.mem_of_getElem? (i := 1106) (by decide +kernel)⟩
theorem lw_p41 : lw_okq (⟨"TreePress$Path", "readStep", "(LTreePress$Names;Z)Z"⟩, 11) := ⟨⟨by decide +kernel, by decide +kernel⟩, List.mem_of_getElem? (i := 149) (by decide +kernel), List.mem_of_getElem? (i := 1180) (by decide +kernel), List.mem_of_getElem? (i := 1181) (by decide +kernel)⟩
theorem lw_p42 : lw_okq (⟨"TreePress$Path", "readBrackets", "(LTreePress$Names;I)Z"⟩, 11) := ⟨⟨by decide +kernel, by decide +kernel⟩, List.mem_of_getElem? (i := 149) (by decide +kernel), List.mem_of_getElem? (i := 1194) (by decide +kernel), List.mem_of_getElem? (i := 1195) (by decide +kernel)⟩
theorem lw_p43 : lw_okq (⟨"TreePress$Path", "readBracket", "(LTreePress$Names;I)Z"⟩, 11) := ⟨⟨by decide +kernel, by decide +kernel⟩, List.mem_of_getElem? (i := 149) (by decide +kernel), List.mem_of_getElem? (i := 1199) (by decide +kernel), List.mem_of_getElem? (i := 1200) (by decide +kernel)⟩
theorem lw_p44 : lw_okq (⟨"TreePress$Path", "takeNumber", "()I"⟩, 11) := ⟨⟨by decide +kernel, by decide +kernel⟩, List.mem_of_getElem? (i := 149) (by decide +kernel), List.mem_of_getElem? (i := 1204) (by decide +kernel), List.mem_of_getElem? (i := 1205) (by decide +kernel)⟩
theorem lw_p45 : lw_okq (⟨"TreePress$Path", "readQuoted", "(I)Z"⟩, 11) := ⟨⟨by decide +kernel, by decide +kernel⟩, List.mem_of_getElem? (i := 149) (by decide +kernel), List.mem_of_getElem? (i := 1210) (by decide +kernel), List.mem_of_getElem? (i := 1211) (by decide +kernel)⟩
theorem lw_p46 : lw_okq (⟨"TreePress$Selector", "spread", "(LTreePress$Doc;)V"⟩, 6) := ⟨⟨by decide +kernel, by decide +kernel⟩, List.mem_of_getElem? (i := 199) (by decide +kernel), List.mem_of_getElem? (i := 1226) (by decide +kernel), List.mem_of_getElem? (i := 1227) (by decide +kernel)⟩
theorem lw_p47 : lw_okq (⟨"TreePress$Selector", "takeStep", "(LTreePress$Doc;LTreePress$Path;I)V"⟩, 6) := ⟨⟨by decide +kernel, by decide +kernel⟩, List.mem_of_getElem? (i := 199) (by decide +kernel), List.mem_of_getElem? (i := 1231) (by decide +kernel), List.mem_of_getElem? (i := 1232) (by decide +kernel)⟩
def lw_privs_3 : List (MethodName × Nat) := [(⟨"TreePress$Judge", "judgeSpec", "(LTreePress$Doc;I)V"⟩, 4), (⟨"TreePress$Judge", "judgeElement", "(LTreePress$Doc;I)V"⟩, 4), (⟨"TreePress$Judge", "fits", "(LTreePress$Doc;II)Z"⟩, 4), (⟨"TreePress$Judge", "fitsGroup", "(LTreePress$Doc;II)Z"⟩, 4), (⟨"TreePress$Judge", "fitsLoosely", "(LTreePress$Doc;II)Z"⟩, 4), (⟨"TreePress$Judge", "judgeAttribute", "(LTreePress$Doc;II)V"⟩, 4), (⟨"TreePress$Judge", "isAsFixed", "(LTreePress$Doc;II)Z"⟩, 4), (⟨"TreePress$Judge", "sameValue", "(LTreePress$Doc;III)Z"⟩, 4), (⟨"TreePress$Judge", "isTaken", "(LTreePress$Doc;I)Z"⟩, 4), (⟨"TreePress$Path", "readStep", "(LTreePress$Names;Z)Z"⟩, 11), (⟨"TreePress$Path", "readBrackets", "(LTreePress$Names;I)Z"⟩, 11), (⟨"TreePress$Path", "readBracket", "(LTreePress$Names;I)Z"⟩, 11), (⟨"TreePress$Path", "takeNumber", "()I"⟩, 11), (⟨"TreePress$Path", "readQuoted", "(I)Z"⟩, 11), (⟨"TreePress$Selector", "spread", "(LTreePress$Doc;)V"⟩, 6), (⟨"TreePress$Selector", "takeStep", "(LTreePress$Doc;LTreePress$Path;I)V"⟩, 6)]
theorem lw_r3 : ∀ q ∈ lw_privs_3, lw_okq q := List.forall_mem_cons.mpr ⟨lw_p32, List.forall_mem_cons.mpr ⟨lw_p33, List.forall_mem_cons.mpr ⟨lw_p34, List.forall_mem_cons.mpr ⟨lw_p35, List.forall_mem_cons.mpr ⟨lw_p36, List.forall_mem_cons.mpr ⟨lw_p37, List.forall_mem_cons.mpr ⟨lw_p38, List.forall_mem_cons.mpr ⟨lw_p39, List.forall_mem_cons.mpr ⟨lw_p40, List.forall_mem_cons.mpr ⟨lw_p41, List.forall_mem_cons.mpr ⟨lw_p42, List.forall_mem_cons.mpr ⟨lw_p43, List.forall_mem_cons.mpr ⟨lw_p44, List.forall_mem_cons.mpr ⟨lw_p45, List.forall_mem_cons.mpr ⟨lw_p46, List.forall_mem_cons.mpr ⟨lw_p47, fun _ h => absurd h List.not_mem_nil⟩⟩⟩⟩⟩⟩⟩⟩⟩⟩⟩⟩⟩⟩⟩⟩
theorem lw_p48 : lw_okq (⟨"TreePress$Selector", "lead", "(LTreePress$Doc;LTreePress$Path;II)V"⟩, 6) := ⟨⟨by decide +kernel, by decide +kernel⟩, List.mem_of_getElem? (i := 199) (by decide +kernel), List.mem_of_getElem? (i := 1235) (by decide +kernel), List.mem_of_getElem? (i := 1236) (by decide +kernel)⟩
theorem lw_p49 : lw_okq (⟨"TreePress$Selector", "push", "(I)V"⟩, 6) := ⟨⟨by decide +kernel, by decide +kernel⟩, List.mem_of_getElem? (i := 199) (by decide +kernel), List.mem_of_getElem? (i := 1239) (by decide +kernel), List.mem_of_getElem? (i := 1240) (by decide +kernel)⟩
theorem lw_p50 : lw_okq (⟨"TreePress$Selector", "leadInto", "(LTreePress$Doc;III)V"⟩, 6) := ⟨⟨by decide +kernel, by decide +kernel⟩, List.mem_of_getElem? (i := 199) (by decide +kernel), List.mem_of_getElem? (i := 1243) (by decide +kernel), List.mem_of_getElem? (i := 1244) (by decide +kernel)⟩
theorem lw_p51 : lw_okq (⟨"TreePress$Selector", "sift", "(LTreePress$Doc;LTreePress$Path;I)V"⟩, 6) := ⟨⟨by decide +kernel, by decide +kernel⟩, List.mem_of_getElem? (i := 199) (by decide +kernel), List.mem_of_getElem? (i := 1248) (by decide +kernel), List.mem_of_getElem? (i := 1249) (by decide +kernel)⟩
theorem lw_p52 : lw_okq (⟨"TreePress$Selector", "passes", "(LTreePress$Doc;LTreePress$Path;II)Z"⟩, 6) := ⟨⟨by decide +kernel, by decide +kernel⟩, List.mem_of_getElem? (i := 199) (by decide +kernel), List.mem_of_getElem? (i := 1252) (by decide +kernel), List.mem_of_getElem? (i := 1253) (by decide +kernel)⟩
theorem lw_p53 : lw_okq (⟨"TreePress$Selector", "isQuoted", "(LTreePress$Doc;LTreePress$Path;II)Z"⟩, 6) := ⟨⟨by decide +kernel, by decide +kernel⟩, List.mem_of_getElem? (i := 199) (by decide +kernel), List.mem_of_getElem? (i := 1256) (by decide +kernel), List.mem_of_getElem? (i := 1257) (by decide +kernel)⟩
theorem lw_p54 : lw_okq (⟨"TreePress$Composer", "closeBlocks", "(LTreePress$Doc;I)V"⟩, 18) := ⟨⟨by decide +kernel, by decide +kernel⟩, List.mem_of_getElem? (i := 226) (by decide +kernel), List.mem_of_getElem? (i := 1279) (by decide +kernel), List.mem_of_getElem? (i := 1280) (by decide +kernel)⟩
theorem lw_p55 : lw_okq (⟨"TreePress$Composer", "endLine", "(LTreePress$Doc;)V"⟩, 18) := ⟨⟨by decide +kernel, by decide +kernel⟩, List.mem_of_getElem? (i := 226) (by decide +kernel), List.mem_of_getElem? (i := 1283) (by decide +kernel), List.mem_of_getElem? (i := 1284) (by decide +kernel)⟩
theorem lw_p56 : lw_okq (⟨"TreePress$Composer", "endWord", "(LTreePress$Doc;)V"⟩, 18) := ⟨⟨by decide +kernel, by decide +kernel⟩, List.mem_of_getElem? (i := 226) (by decide +kernel), List.mem_of_getElem? (i := 1287) (by decide +kernel), List.mem_of_getElem? (i := 1288) (by decide +kernel)⟩
theorem lw_p57 : lw_okq (⟨"TreePress$Composer", "finishLine", "()V"⟩, 18) := ⟨⟨by decide +kernel, by decide +kernel⟩, List.mem_of_getElem? (i := 226) (by decide +kernel), List.mem_of_getElem? (i := 1291) (by decide +kernel), List.mem_of_getElem? (i := 1292) (by decide +kernel)⟩
theorem lw_p58 : lw_okq (⟨"TreePress$Composer", "append", "(LTreePress$Doc;I)V"⟩, 18) := ⟨⟨by decide +kernel, by decide +kernel⟩, List.mem_of_getElem? (i := 226) (by decide +kernel), List.mem_of_getElem? (i := 1295) (by decide +kernel), List.mem_of_getElem? (i := 1296) (by decide +kernel)⟩
theorem lw_p59 : lw_okq (⟨"TreePress$Composer", "takeText", "(LTreePress$Doc;I)V"⟩, 18) := ⟨⟨by decide +kernel, by decide +kernel⟩, List.mem_of_getElem? (i := 226) (by decide +kernel), List.mem_of_getElem? (i := 1310) (by decide +kernel), List.mem_of_getElem? (i := 1311) (by decide +kernel)⟩
theorem lw_p60 : lw_okq (⟨"TreePress$Composer", "openBlock", "(LTreePress$Doc;I)V"⟩, 18) := ⟨⟨by decide +kernel, by decide +kernel⟩, List.mem_of_getElem? (i := 226) (by decide +kernel), List.mem_of_getElem? (i := 1318) (by decide +kernel), List.mem_of_getElem? (i := 1319) (by decide +kernel)⟩
theorem lw_p61 : lw_okq (⟨"TreePress$Composer", "layPages", "()V"⟩, 18) := ⟨⟨by decide +kernel, by decide +kernel⟩, List.mem_of_getElem? (i := 226) (by decide +kernel), List.mem_of_getElem? (i := 1322) (by decide +kernel), List.mem_of_getElem? (i := 1323) (by decide +kernel)⟩
theorem lw_p62 : lw_okq (⟨"TreePressModel", "begin", "(I)V"⟩, 102) := ⟨⟨by decide +kernel, by decide +kernel⟩, List.mem_of_getElem? (i := 1346) (by decide +kernel), List.mem_of_getElem? (i := 1667) (by decide +kernel), List.mem_of_getElem? (i := 1668) (by decide +kernel)⟩
theorem lw_p63 : lw_okq (⟨"TreePressModel", "newNode", "(II)I"⟩, 102) := ⟨⟨by decide +kernel, by decide +kernel⟩, List.mem_of_getElem? (i := 1346) (by decide +kernel), List.mem_of_getElem? (i := 1671) (by decide +kernel), List.mem_of_getElem? (i := 1672) (by decide +kernel)⟩
def lw_privs_4 : List (MethodName × Nat) := [(⟨"TreePress$Selector", "lead", "(LTreePress$Doc;LTreePress$Path;II)V"⟩, 6), (⟨"TreePress$Selector", "push", "(I)V"⟩, 6), (⟨"TreePress$Selector", "leadInto", "(LTreePress$Doc;III)V"⟩, 6), (⟨"TreePress$Selector", "sift", "(LTreePress$Doc;LTreePress$Path;I)V"⟩, 6), (⟨"TreePress$Selector", "passes", "(LTreePress$Doc;LTreePress$Path;II)Z"⟩, 6), (⟨"TreePress$Selector", "isQuoted", "(LTreePress$Doc;LTreePress$Path;II)Z"⟩, 6), (⟨"TreePress$Composer", "closeBlocks", "(LTreePress$Doc;I)V"⟩, 18), (⟨"TreePress$Composer", "endLine", "(LTreePress$Doc;)V"⟩, 18), (⟨"TreePress$Composer", "endWord", "(LTreePress$Doc;)V"⟩, 18), (⟨"TreePress$Composer", "finishLine", "()V"⟩, 18), (⟨"TreePress$Composer", "append", "(LTreePress$Doc;I)V"⟩, 18), (⟨"TreePress$Composer", "takeText", "(LTreePress$Doc;I)V"⟩, 18), (⟨"TreePress$Composer", "openBlock", "(LTreePress$Doc;I)V"⟩, 18), (⟨"TreePress$Composer", "layPages", "()V"⟩, 18), (⟨"TreePressModel", "begin", "(I)V"⟩, 102), (⟨"TreePressModel", "newNode", "(II)I"⟩, 102)]
theorem lw_r4 : ∀ q ∈ lw_privs_4, lw_okq q := List.forall_mem_cons.mpr ⟨lw_p48, List.forall_mem_cons.mpr ⟨lw_p49, List.forall_mem_cons.mpr ⟨lw_p50, List.forall_mem_cons.mpr ⟨lw_p51, List.forall_mem_cons.mpr ⟨lw_p52, List.forall_mem_cons.mpr ⟨lw_p53, List.forall_mem_cons.mpr ⟨lw_p54, List.forall_mem_cons.mpr ⟨lw_p55, List.forall_mem_cons.mpr ⟨lw_p56, List.forall_mem_cons.mpr ⟨lw_p57, List.forall_mem_cons.mpr ⟨lw_p58, List.forall_mem_cons.mpr ⟨lw_p59, List.forall_mem_cons.mpr ⟨lw_p60, List.forall_mem_cons.mpr ⟨lw_p61, List.forall_mem_cons.mpr ⟨lw_p62, List.forall_mem_cons.mpr ⟨lw_p63, fun _ h => absurd h List.not_mem_nil⟩⟩⟩⟩⟩⟩⟩⟩⟩⟩⟩⟩⟩⟩⟩⟩
theorem lw_p64 : lw_okq (⟨"TreePressModel", "isGood", "()Z"⟩, 102) := ⟨⟨by decide +kernel, by decide +kernel⟩, List.mem_of_getElem? (i := 1346) (by decide +kernel), List.mem_of_getElem? (i := 1675) (by decide +kernel), List.mem_of_getElem? (i := 1676) (by decide +kernel)⟩
theorem lw_p65 : lw_okq (⟨"TreePressModel", "fail", "(II)V"⟩, 102) := ⟨⟨by decide +kernel, by decide +kernel⟩, List.mem_of_getElem? (i := 1346) (by decide +kernel), List.mem_of_getElem? (i := 1679) (by decide +kernel), List.mem_of_getElem? (i := 1680) (by decide +kernel)⟩
theorem lw_p66 : lw_okq (⟨"TreePressModel", "misc", "()V"⟩, 102) := ⟨⟨by decide +kernel, by decide +kernel⟩, List.mem_of_getElem? (i := 1346) (by decide +kernel), List.mem_of_getElem? (i := 1683) (by decide +kernel), List.mem_of_getElem? (i := 1684) (by decide +kernel)⟩
theorem lw_p67 : lw_okq (⟨"TreePressModel", "maybeS", "()V"⟩, 102) := ⟨⟨by decide +kernel, by decide +kernel⟩, List.mem_of_getElem? (i := 1346) (by decide +kernel), List.mem_of_getElem? (i := 1687) (by decide +kernel), List.mem_of_getElem? (i := 1688) (by decide +kernel)⟩
theorem lw_p68 : lw_okq (⟨"TreePressModel", "octet", "(I)I"⟩, 102) := ⟨⟨by decide +kernel, by decide +kernel⟩, List.mem_of_getElem? (i := 1346) (by decide +kernel), List.mem_of_getElem? (i := 1691) (by decide +kernel), List.mem_of_getElem? (i := 1692) (by decide +kernel)⟩
theorem lw_p69 : lw_okq (⟨"TreePressModel", "stands", "(JI)Z"⟩, 102) := ⟨⟨by decide +kernel, by decide +kernel⟩, List.mem_of_getElem? (i := 1346) (by decide +kernel), List.mem_of_getElem? (i := 1699) (by decide +kernel), List.mem_of_getElem? (i := 1700) (by decide +kernel)⟩
theorem lw_p70 : lw_okq (⟨"TreePressModel", "comment", "()V"⟩, 102) := ⟨⟨by decide +kernel, by decide +kernel⟩, List.mem_of_getElem? (i := 1346) (by decide +kernel), List.mem_of_getElem? (i := 1704) (by decide +kernel), List.mem_of_getElem? (i := 1705) (by decide +kernel)⟩
theorem lw_p71 : lw_okq (⟨"TreePressModel", "passes", "(I)Z"⟩, 102) := ⟨⟨by decide +kernel, by decide +kernel⟩, List.mem_of_getElem? (i := 1346) (by decide +kernel), List.mem_of_getElem? (i := 1714) (by decide +kernel), List.mem_of_getElem? (i := 1715) (by decide +kernel)⟩
theorem lw_p72 : lw_okq (⟨"TreePressModel", "stands2", "(JJI)Z"⟩, 102) := ⟨⟨by decide +kernel, by decide +kernel⟩, List.mem_of_getElem? (i := 1346) (by decide +kernel), List.mem_of_getElem? (i := 1720) (by decide +kernel), List.mem_of_getElem? (i := 1721) (by decide +kernel)⟩
theorem lw_p73 : lw_okq (⟨"TreePressModel", "doctype", "()V"⟩, 102) := ⟨⟨by decide +kernel, by decide +kernel⟩, List.mem_of_getElem? (i := 1346) (by decide +kernel), List.mem_of_getElem? (i := 1724) (by decide +kernel), List.mem_of_getElem? (i := 1725) (by decide +kernel)⟩
theorem lw_p74 : lw_okq (⟨"TreePressModel", "mustS", "()V"⟩, 102) := ⟨⟨by decide +kernel, by decide +kernel⟩, List.mem_of_getElem? (i := 1346) (by decide +kernel), List.mem_of_getElem? (i := 1728) (by decide +kernel), List.mem_of_getElem? (i := 1729) (by decide +kernel)⟩
theorem lw_p75 : lw_okq (⟨"TreePressModel", "takeName", "()I"⟩, 102) := ⟨⟨by decide +kernel, by decide +kernel⟩, List.mem_of_getElem? (i := 1346) (by decide +kernel), List.mem_of_getElem? (i := 1732) (by decide +kernel), List.mem_of_getElem? (i := 1733) (by decide +kernel)⟩
theorem lw_p76 : lw_okq (⟨"TreePressModel", "declaration", "()V"⟩, 102) := ⟨⟨by decide +kernel, by decide +kernel⟩, List.mem_of_getElem? (i := 1346) (by decide +kernel), List.mem_of_getElem? (i := 1750) (by decide +kernel), List.mem_of_getElem? (i := 1751) (by decide +kernel)⟩
theorem lw_p77 : lw_okq (⟨"TreePressModel", "mixed", "(I)V"⟩, 102) := ⟨⟨by decide +kernel, by decide +kernel⟩, List.mem_of_getElem? (i := 1346) (by decide +kernel), List.mem_of_getElem? (i := 1757) (by decide +kernel), List.mem_of_getElem? (i := 1758) (by decide +kernel)⟩
theorem lw_p78 : lw_okq (⟨"TreePressModel", "specName", "(I)I"⟩, 102) := ⟨⟨by decide +kernel, by decide +kernel⟩, List.mem_of_getElem? (i := 1346) (by decide +kernel), List.mem_of_getElem? (i := 1761) (by decide +kernel), List.mem_of_getElem? (i := 1762) (by decide +kernel)⟩
theorem lw_p79 : lw_okq (⟨"TreePressModel", "group", "(I)V"⟩, 102) := ⟨⟨by decide +kernel, by decide +kernel⟩, List.mem_of_getElem? (i := 1346) (by decide +kernel), List.mem_of_getElem? (i := 1765) (by decide +kernel), List.mem_of_getElem? (i := 1766) (by decide +kernel)⟩
def lw_privs_5 : List (MethodName × Nat) := [(⟨"TreePressModel", "isGood", "()Z"⟩, 102), (⟨"TreePressModel", "fail", "(II)V"⟩, 102), (⟨"TreePressModel", "misc", "()V"⟩, 102), (⟨"TreePressModel", "maybeS", "()V"⟩, 102), (⟨"TreePressModel", "octet", "(I)I"⟩, 102), (⟨"TreePressModel", "stands", "(JI)Z"⟩, 102), (⟨"TreePressModel", "comment", "()V"⟩, 102), (⟨"TreePressModel", "passes", "(I)Z"⟩, 102), (⟨"TreePressModel", "stands2", "(JJI)Z"⟩, 102), (⟨"TreePressModel", "doctype", "()V"⟩, 102), (⟨"TreePressModel", "mustS", "()V"⟩, 102), (⟨"TreePressModel", "takeName", "()I"⟩, 102), (⟨"TreePressModel", "declaration", "()V"⟩, 102), (⟨"TreePressModel", "mixed", "(I)V"⟩, 102), (⟨"TreePressModel", "specName", "(I)I"⟩, 102), (⟨"TreePressModel", "group", "(I)V"⟩, 102)]
theorem lw_r5 : ∀ q ∈ lw_privs_5, lw_okq q := List.forall_mem_cons.mpr ⟨lw_p64, List.forall_mem_cons.mpr ⟨lw_p65, List.forall_mem_cons.mpr ⟨lw_p66, List.forall_mem_cons.mpr ⟨lw_p67, List.forall_mem_cons.mpr ⟨lw_p68, List.forall_mem_cons.mpr ⟨lw_p69, List.forall_mem_cons.mpr ⟨lw_p70, List.forall_mem_cons.mpr ⟨lw_p71, List.forall_mem_cons.mpr ⟨lw_p72, List.forall_mem_cons.mpr ⟨lw_p73, List.forall_mem_cons.mpr ⟨lw_p74, List.forall_mem_cons.mpr ⟨lw_p75, List.forall_mem_cons.mpr ⟨lw_p76, List.forall_mem_cons.mpr ⟨lw_p77, List.forall_mem_cons.mpr ⟨lw_p78, List.forall_mem_cons.mpr ⟨lw_p79, fun _ h => absurd h List.not_mem_nil⟩⟩⟩⟩⟩⟩⟩⟩⟩⟩⟩⟩⟩⟩⟩⟩
theorem lw_p80 : lw_okq (⟨"TreePressModel", "openGroup", "(I)V"⟩, 102) := ⟨⟨by decide +kernel, by decide +kernel⟩, List.mem_of_getElem? (i := 1346) (by decide +kernel), List.mem_of_getElem? (i := 1769) (by decide +kernel), List.mem_of_getElem? (i := 1770) (by decide +kernel)⟩
theorem lw_p81 : lw_okq (⟨"TreePressModel", "mark", "(I)V"⟩, 102) := ⟨⟨by decide +kernel, by decide +kernel⟩, List.mem_of_getElem? (i := 1346) (by decide +kernel), List.mem_of_getElem? (i := 1773) (by decide +kernel), List.mem_of_getElem? (i := 1774) (by decide +kernel)⟩
theorem lw_p82 : lw_okq (⟨"TreePressModel", "joinFollows", "(IJJ)V"⟩, 102) := ⟨⟨by decide +kernel, by decide +kernel⟩, List.mem_of_getElem? (i := 1346) (by decide +kernel), List.mem_of_getElem? (i := 1777) (by decide +kernel), List.mem_of_getElem? (i := 1778) (by decide +kernel)⟩
theorem lw_p83 : lw_okq (⟨"TreePressModel", "comes", "(II)V"⟩, 102) := ⟨⟨by decide +kernel, by decide +kernel⟩, List.mem_of_getElem? (i := 1346) (by decide +kernel), List.mem_of_getElem? (i := 1781) (by decide +kernel), List.mem_of_getElem? (i := 1782) (by decide +kernel)⟩
theorem lw_p84 : lw_okq (⟨"TreePressModel", "attributeList", "()V"⟩, 102) := ⟨⟨by decide +kernel, by decide +kernel⟩, List.mem_of_getElem? (i := 1346) (by decide +kernel), List.mem_of_getElem? (i := 1786) (by decide +kernel), List.mem_of_getElem? (i := 1787) (by decide +kernel)⟩
theorem lw_p85 : lw_okq (⟨"TreePressModel", "rule", "(II)V"⟩, 102) := ⟨⟨by decide +kernel, by decide +kernel⟩, List.mem_of_getElem? (i := 1346) (by decide +kernel), List.mem_of_getElem? (i := 1790) (by decide +kernel), List.mem_of_getElem? (i := 1791) (by decide +kernel)⟩
theorem lw_p86 : lw_okq (⟨"TreePressModel", "hasRule", "(IIII)Z"⟩, 102) := ⟨⟨by decide +kernel, by decide +kernel⟩, List.mem_of_getElem? (i := 1346) (by decide +kernel), List.mem_of_getElem? (i := 1794) (by decide +kernel), List.mem_of_getElem? (i := 1795) (by decide +kernel)⟩
theorem lw_p87 : lw_okq (⟨"TreePressModel", "isSame", "(IIII)Z"⟩, 102) := ⟨⟨by decide +kernel, by decide +kernel⟩, List.mem_of_getElem? (i := 1346) (by decide +kernel), List.mem_of_getElem? (i := 1798) (by decide +kernel), List.mem_of_getElem? (i := 1799) (by decide +kernel)⟩
theorem lw_p88 : lw_okq (⟨"TreePressModel", "tokens", "(I)V"⟩, 102) := ⟨⟨by decide +kernel, by decide +kernel⟩, List.mem_of_getElem? (i := 1346) (by decide +kernel), List.mem_of_getElem? (i := 1804) (by decide +kernel), List.mem_of_getElem? (i := 1805) (by decide +kernel)⟩
theorem lw_p89 : lw_okq (⟨"TreePressModel", "defaults", "(I)V"⟩, 102) := ⟨⟨by decide +kernel, by decide +kernel⟩, List.mem_of_getElem? (i := 1346) (by decide +kernel), List.mem_of_getElem? (i := 1808) (by decide +kernel), List.mem_of_getElem? (i := 1809) (by decide +kernel)⟩
theorem lw_p90 : lw_okq (⟨"TreePressModel", "value", "()I"⟩, 102) := ⟨⟨by decide +kernel, by decide +kernel⟩, List.mem_of_getElem? (i := 1346) (by decide +kernel), List.mem_of_getElem? (i := 1816) (by decide +kernel), List.mem_of_getElem? (i := 1817) (by decide +kernel)⟩
theorem lw_p91 : lw_okq (⟨"TreePressModel", "takePiece", "()I"⟩, 102) := ⟨⟨by decide +kernel, by decide +kernel⟩, List.mem_of_getElem? (i := 1346) (by decide +kernel), List.mem_of_getElem? (i := 1820) (by decide +kernel), List.mem_of_getElem? (i := 1821) (by decide +kernel)⟩
theorem lw_p92 : lw_okq (⟨"TreePressModel", "keep", "(II)V"⟩, 102) := ⟨⟨by decide +kernel, by decide +kernel⟩, List.mem_of_getElem? (i := 1346) (by decide +kernel), List.mem_of_getElem? (i := 1830) (by decide +kernel), List.mem_of_getElem? (i := 1831) (by decide +kernel)⟩
theorem lw_p93 : lw_okq (⟨"TreePressModel", "element", "()V"⟩, 102) := ⟨⟨by decide +kernel, by decide +kernel⟩, List.mem_of_getElem? (i := 1346) (by decide +kernel), List.mem_of_getElem? (i := 1834) (by decide +kernel), List.mem_of_getElem? (i := 1835) (by decide +kernel)⟩
theorem lw_p94 : lw_okq (⟨"TreePressModel", "attribute", "(I)V"⟩, 102) := ⟨⟨by decide +kernel, by decide +kernel⟩, List.mem_of_getElem? (i := 1346) (by decide +kernel), List.mem_of_getElem? (i := 1838) (by decide +kernel), List.mem_of_getElem? (i := 1839) (by decide +kernel)⟩
theorem lw_p95 : lw_okq (⟨"TreePressModel", "hasAttribute", "(III)Z"⟩, 102) := ⟨⟨by decide +kernel, by decide +kernel⟩, List.mem_of_getElem? (i := 1346) (by decide +kernel), List.mem_of_getElem? (i := 1842) (by decide +kernel), List.mem_of_getElem? (i := 1843) (by decide +kernel)⟩
def lw_privs_6 : List (MethodName × Nat) := [(⟨"TreePressModel", "openGroup", "(I)V"⟩, 102), (⟨"TreePressModel", "mark", "(I)V"⟩, 102), (⟨"TreePressModel", "joinFollows", "(IJJ)V"⟩, 102), (⟨"TreePressModel", "comes", "(II)V"⟩, 102), (⟨"TreePressModel", "attributeList", "()V"⟩, 102), (⟨"TreePressModel", "rule", "(II)V"⟩, 102), (⟨"TreePressModel", "hasRule", "(IIII)Z"⟩, 102), (⟨"TreePressModel", "isSame", "(IIII)Z"⟩, 102), (⟨"TreePressModel", "tokens", "(I)V"⟩, 102), (⟨"TreePressModel", "defaults", "(I)V"⟩, 102), (⟨"TreePressModel", "value", "()I"⟩, 102), (⟨"TreePressModel", "takePiece", "()I"⟩, 102), (⟨"TreePressModel", "keep", "(II)V"⟩, 102), (⟨"TreePressModel", "element", "()V"⟩, 102), (⟨"TreePressModel", "attribute", "(I)V"⟩, 102), (⟨"TreePressModel", "hasAttribute", "(III)Z"⟩, 102)]
theorem lw_r6 : ∀ q ∈ lw_privs_6, lw_okq q := List.forall_mem_cons.mpr ⟨lw_p80, List.forall_mem_cons.mpr ⟨lw_p81, List.forall_mem_cons.mpr ⟨lw_p82, List.forall_mem_cons.mpr ⟨lw_p83, List.forall_mem_cons.mpr ⟨lw_p84, List.forall_mem_cons.mpr ⟨lw_p85, List.forall_mem_cons.mpr ⟨lw_p86, List.forall_mem_cons.mpr ⟨lw_p87, List.forall_mem_cons.mpr ⟨lw_p88, List.forall_mem_cons.mpr ⟨lw_p89, List.forall_mem_cons.mpr ⟨lw_p90, List.forall_mem_cons.mpr ⟨lw_p91, List.forall_mem_cons.mpr ⟨lw_p92, List.forall_mem_cons.mpr ⟨lw_p93, List.forall_mem_cons.mpr ⟨lw_p94, List.forall_mem_cons.mpr ⟨lw_p95, fun _ h => absurd h List.not_mem_nil⟩⟩⟩⟩⟩⟩⟩⟩⟩⟩⟩⟩⟩⟩⟩⟩
theorem lw_p96 : lw_okq (⟨"TreePressModel", "attributesOf", "(I)I"⟩, 102) := ⟨⟨by decide +kernel, by decide +kernel⟩, List.mem_of_getElem? (i := 1346) (by decide +kernel), List.mem_of_getElem? (i := 1846) (by decide +kernel), List.mem_of_getElem? (i := 1847) (by decide +kernel)⟩
theorem lw_p97 : lw_okq (⟨"TreePressModel", "defaultsOf", "(II)V"⟩, 102) := ⟨⟨by decide +kernel, by decide +kernel⟩, List.mem_of_getElem? (i := 1346) (by decide +kernel), List.mem_of_getElem? (i := 1851) (by decide +kernel), List.mem_of_getElem? (i := 1852) (by decide +kernel)⟩
theorem lw_p98 : lw_okq (⟨"TreePressModel", "content", "()V"⟩, 102) := ⟨⟨by decide +kernel, by decide +kernel⟩, List.mem_of_getElem? (i := 1346) (by decide +kernel), List.mem_of_getElem? (i := 1855) (by decide +kernel), List.mem_of_getElem? (i := 1856) (by decide +kernel)⟩
theorem lw_p99 : lw_okq (⟨"TreePressModel", "close", "()V"⟩, 102) := ⟨⟨by decide +kernel, by decide +kernel⟩, List.mem_of_getElem? (i := 1346) (by decide +kernel), List.mem_of_getElem? (i := 1860) (by decide +kernel), List.mem_of_getElem? (i := 1861) (by decide +kernel)⟩
theorem lw_p100 : lw_okq (⟨"TreePressModel", "text", "()V"⟩, 102) := ⟨⟨by decide +kernel, by decide +kernel⟩, List.mem_of_getElem? (i := 1346) (by decide +kernel), List.mem_of_getElem? (i := 1864) (by decide +kernel), List.mem_of_getElem? (i := 1865) (by decide +kernel)⟩
theorem lw_p101 : lw_okq (⟨"TreePressModel", "judge", "()V"⟩, 102) := ⟨⟨by decide +kernel, by decide +kernel⟩, List.mem_of_getElem? (i := 1346) (by decide +kernel), List.mem_of_getElem? (i := 1868) (by decide +kernel), List.mem_of_getElem? (i := 1869) (by decide +kernel)⟩
theorem lw_p102 : lw_okq (⟨"TreePressModel", "judgeDecl", "(I)V"⟩, 102) := ⟨⟨by decide +kernel, by decide +kernel⟩, List.mem_of_getElem? (i := 1346) (by decide +kernel), List.mem_of_getElem? (i := 1872) (by decide +kernel), List.mem_of_getElem? (i := 1873) (by decide +kernel)⟩
theorem lw_p103 : lw_okq (⟨"TreePressModel", "declOf", "(II)I"⟩, 102) := ⟨⟨by decide +kernel, by decide +kernel⟩, List.mem_of_getElem? (i := 1346) (by decide +kernel), List.mem_of_getElem? (i := 1876) (by decide +kernel), List.mem_of_getElem? (i := 1877) (by decide +kernel)⟩
theorem lw_p104 : lw_okq (⟨"TreePressModel", "tellFinding", "(II)V"⟩, 102) := ⟨⟨by decide +kernel, by decide +kernel⟩, List.mem_of_getElem? (i := 1346) (by decide +kernel), List.mem_of_getElem? (i := 1880) (by decide +kernel), List.mem_of_getElem? (i := 1881) (by decide +kernel)⟩
theorem lw_p105 : lw_okq (⟨"TreePressModel", "isDoubled", "(IJ)Z"⟩, 102) := ⟨⟨by decide +kernel, by decide +kernel⟩, List.mem_of_getElem? (i := 1346) (by decide +kernel), List.mem_of_getElem? (i := 1884) (by decide +kernel), List.mem_of_getElem? (i := 1885) (by decide +kernel)⟩
theorem lw_p106 : lw_okq (⟨"TreePressModel", "areAlike", "(III)Z"⟩, 102) := ⟨⟨by decide +kernel, by decide +kernel⟩, List.mem_of_getElem? (i := 1346) (by decide +kernel), List.mem_of_getElem? (i := 1888) (by decide +kernel), List.mem_of_getElem? (i := 1889) (by decide +kernel)⟩
theorem lw_p107 : lw_okq (⟨"TreePressModel", "judgeRule", "(I)V"⟩, 102) := ⟨⟨by decide +kernel, by decide +kernel⟩, List.mem_of_getElem? (i := 1346) (by decide +kernel), List.mem_of_getElem? (i := 1893) (by decide +kernel), List.mem_of_getElem? (i := 1894) (by decide +kernel)⟩
theorem lw_p108 : lw_okq (⟨"TreePressModel", "isOf", "(III)Z"⟩, 102) := ⟨⟨by decide +kernel, by decide +kernel⟩, List.mem_of_getElem? (i := 1346) (by decide +kernel), List.mem_of_getElem? (i := 1897) (by decide +kernel), List.mem_of_getElem? (i := 1898) (by decide +kernel)⟩
theorem lw_p109 : lw_okq (⟨"TreePressModel", "isName", "(II)Z"⟩, 102) := ⟨⟨by decide +kernel, by decide +kernel⟩, List.mem_of_getElem? (i := 1346) (by decide +kernel), List.mem_of_getElem? (i := 1901) (by decide +kernel), List.mem_of_getElem? (i := 1902) (by decide +kernel)⟩
theorem lw_p110 : lw_okq (⟨"TreePressModel", "judgeElement", "(I)V"⟩, 102) := ⟨⟨by decide +kernel, by decide +kernel⟩, List.mem_of_getElem? (i := 1346) (by decide +kernel), List.mem_of_getElem? (i := 1906) (by decide +kernel), List.mem_of_getElem? (i := 1907) (by decide +kernel)⟩
theorem lw_p111 : lw_okq (⟨"TreePressModel", "fits", "(II)Z"⟩, 102) := ⟨⟨by decide +kernel, by decide +kernel⟩, List.mem_of_getElem? (i := 1346) (by decide +kernel), List.mem_of_getElem? (i := 1910) (by decide +kernel), List.mem_of_getElem? (i := 1911) (by decide +kernel)⟩
def lw_privs_7 : List (MethodName × Nat) := [(⟨"TreePressModel", "attributesOf", "(I)I"⟩, 102), (⟨"TreePressModel", "defaultsOf", "(II)V"⟩, 102), (⟨"TreePressModel", "content", "()V"⟩, 102), (⟨"TreePressModel", "close", "()V"⟩, 102), (⟨"TreePressModel", "text", "()V"⟩, 102), (⟨"TreePressModel", "judge", "()V"⟩, 102), (⟨"TreePressModel", "judgeDecl", "(I)V"⟩, 102), (⟨"TreePressModel", "declOf", "(II)I"⟩, 102), (⟨"TreePressModel", "tellFinding", "(II)V"⟩, 102), (⟨"TreePressModel", "isDoubled", "(IJ)Z"⟩, 102), (⟨"TreePressModel", "areAlike", "(III)Z"⟩, 102), (⟨"TreePressModel", "judgeRule", "(I)V"⟩, 102), (⟨"TreePressModel", "isOf", "(III)Z"⟩, 102), (⟨"TreePressModel", "isName", "(II)Z"⟩, 102), (⟨"TreePressModel", "judgeElement", "(I)V"⟩, 102), (⟨"TreePressModel", "fits", "(II)Z"⟩, 102)]
theorem lw_r7 : ∀ q ∈ lw_privs_7, lw_okq q := List.forall_mem_cons.mpr ⟨lw_p96, List.forall_mem_cons.mpr ⟨lw_p97, List.forall_mem_cons.mpr ⟨lw_p98, List.forall_mem_cons.mpr ⟨lw_p99, List.forall_mem_cons.mpr ⟨lw_p100, List.forall_mem_cons.mpr ⟨lw_p101, List.forall_mem_cons.mpr ⟨lw_p102, List.forall_mem_cons.mpr ⟨lw_p103, List.forall_mem_cons.mpr ⟨lw_p104, List.forall_mem_cons.mpr ⟨lw_p105, List.forall_mem_cons.mpr ⟨lw_p106, List.forall_mem_cons.mpr ⟨lw_p107, List.forall_mem_cons.mpr ⟨lw_p108, List.forall_mem_cons.mpr ⟨lw_p109, List.forall_mem_cons.mpr ⟨lw_p110, List.forall_mem_cons.mpr ⟨lw_p111, fun _ h => absurd h List.not_mem_nil⟩⟩⟩⟩⟩⟩⟩⟩⟩⟩⟩⟩⟩⟩⟩⟩
theorem lw_p112 : lw_okq (⟨"TreePressModel", "named", "(IJI)J"⟩, 102) := ⟨⟨by decide +kernel, by decide +kernel⟩, List.mem_of_getElem? (i := 1346) (by decide +kernel), List.mem_of_getElem? (i := 1914) (by decide +kernel), List.mem_of_getElem? (i := 1915) (by decide +kernel)⟩
theorem lw_p113 : lw_okq (⟨"TreePressModel", "ruleFor", "(II)I"⟩, 102) := ⟨⟨by decide +kernel, by decide +kernel⟩, List.mem_of_getElem? (i := 1346) (by decide +kernel), List.mem_of_getElem? (i := 1918) (by decide +kernel), List.mem_of_getElem? (i := 1919) (by decide +kernel)⟩
theorem lw_p114 : lw_okq (⟨"TreePressModel", "areSameKept", "(IIII)Z"⟩, 102) := ⟨⟨by decide +kernel, by decide +kernel⟩, List.mem_of_getElem? (i := 1346) (by decide +kernel), List.mem_of_getElem? (i := 1922) (by decide +kernel), List.mem_of_getElem? (i := 1923) (by decide +kernel)⟩
theorem lw_p115 : lw_okq (⟨"TreePressModel", "isTaken", "(I)Z"⟩, 102) := ⟨⟨by decide +kernel, by decide +kernel⟩, List.mem_of_getElem? (i := 1346) (by decide +kernel), List.mem_of_getElem? (i := 1926) (by decide +kernel), List.mem_of_getElem? (i := 1927) (by decide +kernel)⟩
theorem lw_p116 : lw_okq (⟨"TreePressModel", "path", "()V"⟩, 102) := ⟨⟨by decide +kernel, by decide +kernel⟩, List.mem_of_getElem? (i := 1346) (by decide +kernel), List.mem_of_getElem? (i := 1934) (by decide +kernel), List.mem_of_getElem? (i := 1935) (by decide +kernel)⟩
theorem lw_p117 : lw_okq (⟨"TreePressModel", "step", "(Z)V"⟩, 102) := ⟨⟨by decide +kernel, by decide +kernel⟩, List.mem_of_getElem? (i := 1346) (by decide +kernel), List.mem_of_getElem? (i := 1939) (by decide +kernel), List.mem_of_getElem? (i := 1940) (by decide +kernel)⟩
theorem lw_p118 : lw_okq (⟨"TreePressModel", "filter", "(I)V"⟩, 102) := ⟨⟨by decide +kernel, by decide +kernel⟩, List.mem_of_getElem? (i := 1346) (by decide +kernel), List.mem_of_getElem? (i := 1945) (by decide +kernel), List.mem_of_getElem? (i := 1946) (by decide +kernel)⟩
theorem lw_p119 : lw_okq (⟨"TreePressModel", "quoted", "(I)V"⟩, 102) := ⟨⟨by decide +kernel, by decide +kernel⟩, List.mem_of_getElem? (i := 1346) (by decide +kernel), List.mem_of_getElem? (i := 1950) (by decide +kernel), List.mem_of_getElem? (i := 1951) (by decide +kernel)⟩
theorem lw_p120 : lw_okq (⟨"TreePressModel", "goStep", "(I)V"⟩, 102) := ⟨⟨by decide +kernel, by decide +kernel⟩, List.mem_of_getElem? (i := 1346) (by decide +kernel), List.mem_of_getElem? (i := 1955) (by decide +kernel), List.mem_of_getElem? (i := 1956) (by decide +kernel)⟩
theorem lw_p121 : lw_okq (⟨"TreePressModel", "isWithin", "(II)Z"⟩, 102) := ⟨⟨by decide +kernel, by decide +kernel⟩, List.mem_of_getElem? (i := 1346) (by decide +kernel), List.mem_of_getElem? (i := 1959) (by decide +kernel), List.mem_of_getElem? (i := 1960) (by decide +kernel)⟩
theorem lw_p122 : lw_okq (⟨"TreePressModel", "leads", "(III)Z"⟩, 102) := ⟨⟨by decide +kernel, by decide +kernel⟩, List.mem_of_getElem? (i := 1346) (by decide +kernel), List.mem_of_getElem? (i := 1963) (by decide +kernel), List.mem_of_getElem? (i := 1964) (by decide +kernel)⟩
theorem lw_p123 : lw_okq (⟨"TreePressModel", "isCalled", "(III)Z"⟩, 102) := ⟨⟨by decide +kernel, by decide +kernel⟩, List.mem_of_getElem? (i := 1346) (by decide +kernel), List.mem_of_getElem? (i := 1967) (by decide +kernel), List.mem_of_getElem? (i := 1968) (by decide +kernel)⟩
theorem lw_p124 : lw_okq (⟨"TreePressModel", "filterMine", "(I)V"⟩, 102) := ⟨⟨by decide +kernel, by decide +kernel⟩, List.mem_of_getElem? (i := 1346) (by decide +kernel), List.mem_of_getElem? (i := 1971) (by decide +kernel), List.mem_of_getElem? (i := 1972) (by decide +kernel)⟩
theorem lw_p125 : lw_okq (⟨"TreePressModel", "passesFilter", "(II)Z"⟩, 102) := ⟨⟨by decide +kernel, by decide +kernel⟩, List.mem_of_getElem? (i := 1346) (by decide +kernel), List.mem_of_getElem? (i := 1975) (by decide +kernel), List.mem_of_getElem? (i := 1976) (by decide +kernel)⟩
theorem lw_p126 : lw_okq (⟨"TreePressModel", "hasString", "(III)Z"⟩, 102) := ⟨⟨by decide +kernel, by decide +kernel⟩, List.mem_of_getElem? (i := 1346) (by decide +kernel), List.mem_of_getElem? (i := 1979) (by decide +kernel), List.mem_of_getElem? (i := 1980) (by decide +kernel)⟩
theorem lw_p127 : lw_okq (⟨"TreePressModel", "stringOf", "(I)I"⟩, 102) := ⟨⟨by decide +kernel, by decide +kernel⟩, List.mem_of_getElem? (i := 1346) (by decide +kernel), List.mem_of_getElem? (i := 1983) (by decide +kernel), List.mem_of_getElem? (i := 1984) (by decide +kernel)⟩
def lw_privs_8 : List (MethodName × Nat) := [(⟨"TreePressModel", "named", "(IJI)J"⟩, 102), (⟨"TreePressModel", "ruleFor", "(II)I"⟩, 102), (⟨"TreePressModel", "areSameKept", "(IIII)Z"⟩, 102), (⟨"TreePressModel", "isTaken", "(I)Z"⟩, 102), (⟨"TreePressModel", "path", "()V"⟩, 102), (⟨"TreePressModel", "step", "(Z)V"⟩, 102), (⟨"TreePressModel", "filter", "(I)V"⟩, 102), (⟨"TreePressModel", "quoted", "(I)V"⟩, 102), (⟨"TreePressModel", "goStep", "(I)V"⟩, 102), (⟨"TreePressModel", "isWithin", "(II)Z"⟩, 102), (⟨"TreePressModel", "leads", "(III)Z"⟩, 102), (⟨"TreePressModel", "isCalled", "(III)Z"⟩, 102), (⟨"TreePressModel", "filterMine", "(I)V"⟩, 102), (⟨"TreePressModel", "passesFilter", "(II)Z"⟩, 102), (⟨"TreePressModel", "hasString", "(III)Z"⟩, 102), (⟨"TreePressModel", "stringOf", "(I)I"⟩, 102)]
theorem lw_r8 : ∀ q ∈ lw_privs_8, lw_okq q := List.forall_mem_cons.mpr ⟨lw_p112, List.forall_mem_cons.mpr ⟨lw_p113, List.forall_mem_cons.mpr ⟨lw_p114, List.forall_mem_cons.mpr ⟨lw_p115, List.forall_mem_cons.mpr ⟨lw_p116, List.forall_mem_cons.mpr ⟨lw_p117, List.forall_mem_cons.mpr ⟨lw_p118, List.forall_mem_cons.mpr ⟨lw_p119, List.forall_mem_cons.mpr ⟨lw_p120, List.forall_mem_cons.mpr ⟨lw_p121, List.forall_mem_cons.mpr ⟨lw_p122, List.forall_mem_cons.mpr ⟨lw_p123, List.forall_mem_cons.mpr ⟨lw_p124, List.forall_mem_cons.mpr ⟨lw_p125, List.forall_mem_cons.mpr ⟨lw_p126, List.forall_mem_cons.mpr ⟨lw_p127, fun _ h => absurd h List.not_mem_nil⟩⟩⟩⟩⟩⟩⟩⟩⟩⟩⟩⟩⟩⟩⟩⟩
theorem lw_p128 : lw_okq (⟨"TreePressModel", "stringAt", "(II)I"⟩, 102) := ⟨⟨by decide +kernel, by decide +kernel⟩, List.mem_of_getElem? (i := 1346) (by decide +kernel), List.mem_of_getElem? (i := 1987) (by decide +kernel), List.mem_of_getElem? (i := 1988) (by decide +kernel)⟩
theorem lw_p129 : lw_okq (⟨"TreePressModel", "leave", "(II)I"⟩, 102) := ⟨⟨by decide +kernel, by decide +kernel⟩, List.mem_of_getElem? (i := 1346) (by decide +kernel), List.mem_of_getElem? (i := 2001) (by decide +kernel), List.mem_of_getElem? (i := 2002) (by decide +kernel)⟩
theorem lw_p130 : lw_okq (⟨"TreePressModel", "isBlock", "(I)Z"⟩, 102) := ⟨⟨by decide +kernel, by decide +kernel⟩, List.mem_of_getElem? (i := 1346) (by decide +kernel), List.mem_of_getElem? (i := 2005) (by decide +kernel), List.mem_of_getElem? (i := 2006) (by decide +kernel)⟩
theorem lw_p131 : lw_okq (⟨"TreePressModel", "endWord", "()V"⟩, 102) := ⟨⟨by decide +kernel, by decide +kernel⟩, List.mem_of_getElem? (i := 1346) (by decide +kernel), List.mem_of_getElem? (i := 2009) (by decide +kernel), List.mem_of_getElem? (i := 2010) (by decide +kernel)⟩
theorem lw_p132 : lw_okq (⟨"TreePressModel", "toLine", "(II)V"⟩, 102) := ⟨⟨by decide +kernel, by decide +kernel⟩, List.mem_of_getElem? (i := 1346) (by decide +kernel), List.mem_of_getElem? (i := 2013) (by decide +kernel), List.mem_of_getElem? (i := 2014) (by decide +kernel)⟩
theorem lw_p133 : lw_okq (⟨"TreePressModel", "endLine", "()V"⟩, 102) := ⟨⟨by decide +kernel, by decide +kernel⟩, List.mem_of_getElem? (i := 1346) (by decide +kernel), List.mem_of_getElem? (i := 2017) (by decide +kernel), List.mem_of_getElem? (i := 2018) (by decide +kernel)⟩
theorem lw_p134 : lw_okq (⟨"TreePressModel", "beginElement", "(I)V"⟩, 102) := ⟨⟨by decide +kernel, by decide +kernel⟩, List.mem_of_getElem? (i := 1346) (by decide +kernel), List.mem_of_getElem? (i := 2021) (by decide +kernel), List.mem_of_getElem? (i := 2022) (by decide +kernel)⟩
theorem lw_p135 : lw_okq (⟨"TreePressModel", "isKept", "(I)Z"⟩, 102) := ⟨⟨by decide +kernel, by decide +kernel⟩, List.mem_of_getElem? (i := 1346) (by decide +kernel), List.mem_of_getElem? (i := 2025) (by decide +kernel), List.mem_of_getElem? (i := 2026) (by decide +kernel)⟩
theorem lw_p136 : lw_okq (⟨"TreePressModel", "setText", "(I)V"⟩, 102) := ⟨⟨by decide +kernel, by decide +kernel⟩, List.mem_of_getElem? (i := 1346) (by decide +kernel), List.mem_of_getElem? (i := 2029) (by decide +kernel), List.mem_of_getElem? (i := 2030) (by decide +kernel)⟩
theorem lw_p137 : lw_okq (⟨"TreePressModel", "toPages", "(I)V"⟩, 102) := ⟨⟨by decide +kernel, by decide +kernel⟩, List.mem_of_getElem? (i := 1346) (by decide +kernel), List.mem_of_getElem? (i := 2033) (by decide +kernel), List.mem_of_getElem? (i := 2034) (by decide +kernel)⟩
theorem lw_p138 : lw_okq (⟨"TreePressModel", "isNode", "(I)Z"⟩, 102) := ⟨⟨by decide +kernel, by decide +kernel⟩, List.mem_of_getElem? (i := 1346) (by decide +kernel), List.mem_of_getElem? (i := 2049) (by decide +kernel), List.mem_of_getElem? (i := 2050) (by decide +kernel)⟩
def lw_privs_9 : List (MethodName × Nat) := [(⟨"TreePressModel", "stringAt", "(II)I"⟩, 102), (⟨"TreePressModel", "leave", "(II)I"⟩, 102), (⟨"TreePressModel", "isBlock", "(I)Z"⟩, 102), (⟨"TreePressModel", "endWord", "()V"⟩, 102), (⟨"TreePressModel", "toLine", "(II)V"⟩, 102), (⟨"TreePressModel", "endLine", "()V"⟩, 102), (⟨"TreePressModel", "beginElement", "(I)V"⟩, 102), (⟨"TreePressModel", "isKept", "(I)Z"⟩, 102), (⟨"TreePressModel", "setText", "(I)V"⟩, 102), (⟨"TreePressModel", "toPages", "(I)V"⟩, 102), (⟨"TreePressModel", "isNode", "(I)Z"⟩, 102)]
theorem lw_r9 : ∀ q ∈ lw_privs_9, lw_okq q := List.forall_mem_cons.mpr ⟨lw_p128, List.forall_mem_cons.mpr ⟨lw_p129, List.forall_mem_cons.mpr ⟨lw_p130, List.forall_mem_cons.mpr ⟨lw_p131, List.forall_mem_cons.mpr ⟨lw_p132, List.forall_mem_cons.mpr ⟨lw_p133, List.forall_mem_cons.mpr ⟨lw_p134, List.forall_mem_cons.mpr ⟨lw_p135, List.forall_mem_cons.mpr ⟨lw_p136, List.forall_mem_cons.mpr ⟨lw_p137, List.forall_mem_cons.mpr ⟨lw_p138, fun _ h => absurd h List.not_mem_nil⟩⟩⟩⟩⟩⟩⟩⟩⟩⟩⟩
def lw_privs : List (MethodName × Nat) := lw_privs_1 ++ (lw_privs_2 ++ (lw_privs_3 ++ (lw_privs_4 ++ (lw_privs_5 ++ (lw_privs_6 ++ (lw_privs_7 ++ (lw_privs_8 ++ (lw_privs_9))))))))
def lw_tbl : List Cond := k2_sels lw_privs ++ tables_1
theorem lw_privs_ok : ∀ q ∈ lw_privs, lw_okq q := by
  show ∀ q ∈ lw_privs_1 ++ (lw_privs_2 ++ (lw_privs_3 ++ (lw_privs_4 ++ (lw_privs_5 ++ (lw_privs_6 ++ (lw_privs_7 ++ (lw_privs_8 ++ (lw_privs_9)))))))), lw_okq q
  exact List.forall_mem_append.mpr ⟨lw_r1, List.forall_mem_append.mpr ⟨lw_r2, List.forall_mem_append.mpr ⟨lw_r3, List.forall_mem_append.mpr ⟨lw_r4, List.forall_mem_append.mpr ⟨lw_r5, List.forall_mem_append.mpr ⟨lw_r6, List.forall_mem_append.mpr ⟨lw_r7, List.forall_mem_append.mpr ⟨lw_r8, lw_r9⟩⟩⟩⟩⟩⟩⟩⟩
-- ===== end of PART A; then your names; then what follows =====
def RX0 : String := "TreePress$Composer"
def TX0 : u_T := fun k => match k with
  | 0 => ("TreePress$Composer", "bytes", "[B", true)
  | 1 => ("TreePress$Composer", "beginOf", "[I", true)
  | 2 => ("TreePress$Composer", "lengthOf", "[I", true)
  | 3 => ("TreePress$Composer", "pageOf", "[I", true)
  | 4 => ("TreePress$Composer", "placeOf", "[I", true)
  | 5 => ("TreePress$Composer", "sourceOf", "[I", true)
  | 6 => ("TreePress$Composer", "together", "[I", true)
  | 7 => ("TreePress$Composer", "open", "[I", true)
  | 8 => ("TreePress$Composer", "openedAt", "[I", true)
  | 9 => ("TreePress$Composer", "openCount", "I", false)
  | 10 => ("TreePress$Composer", "size", "I", false)
  | 11 => ("TreePress$Composer", "lineLength", "I", false)
  | 12 => ("TreePress$Composer", "wordFrom", "I", false)
  | 13 => ("TreePress$Composer", "wordLength", "I", false)
  | 14 => ("TreePress$Composer", "width", "I", false)
  | 15 => ("TreePress$Composer", "height", "I", false)
  | 16 => ("TreePress$Composer", "lines", "I", false)
  | _ => ("TreePress$Composer", "pages", "I", false)
def tyX0 : Nat → FieldType := fun k => match k with
  | 0 => .array .byte
  | 1 => .array .int
  | 2 => .array .int
  | 3 => .array .int
  | 4 => .array .int
  | 5 => .array .int
  | 6 => .array .int
  | 7 => .array .int
  | 8 => .array .int
  | 9 => .int
  | 10 => .int
  | 11 => .int
  | 12 => .int
  | 13 => .int
  | 14 => .int
  | 15 => .int
  | 16 => .int
  | _ => .int
abbrev wsX00 : List Cond := u_ws RX0 TX0 18
theorem nmX0 : ∀ a, a < 18 → ∀ b, b < 18 → a ≠ b → (TX0 a).2.1 ≠ (TX0 b).2.1 := by decide +kernel
theorem tyX0_ok : ∀ k, k < 18 → parseFieldDescriptor (TX0 k).2.2.1 = some (tyX0 k) := by decide +kernel
abbrev cX0_init : ByteArray := prog_2_method_1_code
def yX0_init : MethodName := ⟨RX0, "<init>", "()V"⟩
abbrev cX0_forget : ByteArray := prog_2_method_2_code
def yX0_forget : MethodName := ⟨RX0, "forget", "()V"⟩
abbrev cX0_byteOf : ByteArray := prog_2_method_3_code
def yX0_byteOf : MethodName := ⟨RX0, "byteOf", "(II)I"⟩
abbrev cX0_compose : ByteArray := prog_2_method_4_code
def yX0_compose : MethodName := ⟨RX0, "compose", "(LTreePress$Doc;II)V"⟩
abbrev cX0_isBlock : ByteArray := prog_2_method_5_code
def yX0_isBlock : MethodName := ⟨RX0, "isBlock", "(LTreePress$Doc;I)Z"⟩
abbrev cX0_openBlock : ByteArray := prog_2_method_6_code
def yX0_openBlock : MethodName := ⟨RX0, "openBlock", "(LTreePress$Doc;I)V"⟩
abbrev cX0_closeBlocks : ByteArray := prog_2_method_7_code
def yX0_closeBlocks : MethodName := ⟨RX0, "closeBlocks", "(LTreePress$Doc;I)V"⟩
abbrev cX0_isKept : ByteArray := prog_2_method_8_code
def yX0_isKept : MethodName := ⟨RX0, "isKept", "(LTreePress$Doc;I)Z"⟩
abbrev cX0_isNamedKeep : ByteArray := prog_2_method_9_code
def yX0_isNamedKeep : MethodName := ⟨RX0, "isNamedKeep", "(LTreePress$Names;I)Z"⟩
abbrev cX0_takeText : ByteArray := prog_2_method_10_code
def yX0_takeText : MethodName := ⟨RX0, "takeText", "(LTreePress$Doc;I)V"⟩
abbrev cX0_endWord : ByteArray := prog_2_method_11_code
def yX0_endWord : MethodName := ⟨RX0, "endWord", "(LTreePress$Doc;)V"⟩
abbrev cX0_append : ByteArray := prog_2_method_12_code
def yX0_append : MethodName := ⟨RX0, "append", "(LTreePress$Doc;I)V"⟩
abbrev cX0_finishLine : ByteArray := prog_2_method_13_code
def yX0_finishLine : MethodName := ⟨RX0, "finishLine", "()V"⟩
abbrev cX0_endLine : ByteArray := prog_2_method_14_code
def yX0_endLine : MethodName := ⟨RX0, "endLine", "(LTreePress$Doc;)V"⟩
abbrev cX0_layPages : ByteArray := prog_2_method_15_code
def yX0_layPages : MethodName := ⟨RX0, "layPages", "()V"⟩
def RX1 : String := "TreePress$Cursor"
def TX1 : u_T := fun k => match k with
  | 0 => ("TreePress$Cursor", "text", "[B", false)
  | 1 => ("TreePress$Cursor", "size", "I", false)
  | 2 => ("TreePress$Cursor", "here", "I", false)
  | 3 => ("TreePress$Cursor", "nameFrom", "I", false)
  | 4 => ("TreePress$Cursor", "nameLength", "I", false)
  | 5 => ("TreePress$Cursor", "fault", "I", false)
  | _ => ("TreePress$Cursor", "faultAt", "I", false)
def tyX1 : Nat → FieldType := fun k => match k with
  | 0 => .array .byte
  | 1 => .int
  | 2 => .int
  | 3 => .int
  | 4 => .int
  | 5 => .int
  | _ => .int
abbrev wsX10 : List Cond := u_ws RX1 TX1 7
theorem nmX1 : ∀ a, a < 7 → ∀ b, b < 7 → a ≠ b → (TX1 a).2.1 ≠ (TX1 b).2.1 := by decide +kernel
theorem tyX1_ok : ∀ k, k < 7 → parseFieldDescriptor (TX1 k).2.2.1 = some (tyX1 k) := by decide +kernel
abbrev cX1_init : ByteArray := prog_3_method_1_code
def yX1_init : MethodName := ⟨RX1, "<init>", "()V"⟩
abbrev cX1_begin : ByteArray := prog_3_method_2_code
def yX1_begin : MethodName := ⟨RX1, "begin", "([BI)V"⟩
abbrev cX1_isSpace : ByteArray := prog_3_method_3_code
def yX1_isSpace : MethodName := ⟨RX1, "isSpace", "(I)Z"⟩
abbrev cX1_isChar : ByteArray := prog_3_method_4_code
def yX1_isChar : MethodName := ⟨RX1, "isChar", "(I)Z"⟩
abbrev cX1_isDigit : ByteArray := prog_3_method_5_code
def yX1_isDigit : MethodName := ⟨RX1, "isDigit", "(I)Z"⟩
abbrev cX1_startsName : ByteArray := prog_3_method_6_code
def yX1_startsName : MethodName := ⟨RX1, "startsName", "(I)Z"⟩
abbrev cX1_isNameByte : ByteArray := prog_3_method_7_code
def yX1_isNameByte : MethodName := ⟨RX1, "isNameByte", "(I)Z"⟩
abbrev cX1_peek : ByteArray := prog_3_method_8_code
def yX1_peek : MethodName := ⟨RX1, "peek", "()I"⟩
abbrev cX1_refuse : ByteArray := prog_3_method_9_code
def yX1_refuse : MethodName := ⟨RX1, "refuse", "(II)Z"⟩
abbrev cX1_takeIf : ByteArray := prog_3_method_10_code
def yX1_takeIf : MethodName := ⟨RX1, "takeIf", "(Ljava/lang/String;)Z"⟩
abbrev cX1_take : ByteArray := prog_3_method_11_code
def yX1_take : MethodName := ⟨RX1, "take", "(Ljava/lang/String;)Z"⟩
abbrev cX1_needEnd : ByteArray := prog_3_method_12_code
def yX1_needEnd : MethodName := ⟨RX1, "needEnd", "()Z"⟩
abbrev cX1_skipSpace : ByteArray := prog_3_method_13_code
def yX1_skipSpace : MethodName := ⟨RX1, "skipSpace", "()V"⟩
abbrev cX1_needSpace : ByteArray := prog_3_method_14_code
def yX1_needSpace : MethodName := ⟨RX1, "needSpace", "()Z"⟩
abbrev cX1_reachesName : ByteArray := prog_3_method_15_code
def yX1_reachesName : MethodName := ⟨RX1, "reachesName", "()Z"⟩
abbrev cX1_needName : ByteArray := prog_3_method_16_code
def yX1_needName : MethodName := ⟨RX1, "needName", "()Z"⟩
abbrev cX1_needToken : ByteArray := prog_3_method_17_code
def yX1_needToken : MethodName := ⟨RX1, "needToken", "()Z"⟩
abbrev cX1_skipComments : ByteArray := prog_3_method_18_code
def yX1_skipComments : MethodName := ⟨RX1, "skipComments", "()Z"⟩
abbrev cX1_finishComment : ByteArray := prog_3_method_19_code
def yX1_finishComment : MethodName := ⟨RX1, "finishComment", "()Z"⟩
abbrev cX1_takePiece : ByteArray := prog_3_method_20_code
def yX1_takePiece : MethodName := ⟨RX1, "takePiece", "()I"⟩
abbrev cX1_takeNumbered : ByteArray := prog_3_method_21_code
def yX1_takeNumbered : MethodName := ⟨RX1, "takeNumbered", "()I"⟩
abbrev cX1_takeValue : ByteArray := prog_3_method_22_code
def yX1_takeValue : MethodName := ⟨RX1, "takeValue", "(LTreePress$Doc;)Z"⟩
def RX2 : String := "TreePress$DeclarationReader"
def TX2 : u_T := fun k => match k with
  | 0 => ("TreePress$DeclarationReader", "cursor", "LTreePress$Cursor;", true)
  | 1 => ("TreePress$DeclarationReader", "sign", "[I", true)
  | 2 => ("TreePress$DeclarationReader", "parts", "[I", true)
  | 3 => ("TreePress$DeclarationReader", "first", "[J", true)
  | 4 => ("TreePress$DeclarationReader", "last", "[J", true)
  | 5 => ("TreePress$DeclarationReader", "mayBeEmpty", "[B", true)
  | 6 => ("TreePress$DeclarationReader", "open", "I", false)
  | 7 => ("TreePress$DeclarationReader", "partFirst", "J", false)
  | 8 => ("TreePress$DeclarationReader", "partLast", "J", false)
  | _ => ("TreePress$DeclarationReader", "partMayBeEmpty", "B", false)
def tyX2 : Nat → FieldType := fun k => match k with
  | 0 => .object "TreePress$Cursor"
  | 1 => .array .int
  | 2 => .array .int
  | 3 => .array .long
  | 4 => .array .long
  | 5 => .array .byte
  | 6 => .int
  | 7 => .long
  | 8 => .long
  | _ => .byte
abbrev wsX20 : List Cond := u_ws RX2 TX2 10
theorem nmX2 : ∀ a, a < 10 → ∀ b, b < 10 → a ≠ b → (TX2 a).2.1 ≠ (TX2 b).2.1 := by decide +kernel
theorem tyX2_ok : ∀ k, k < 10 → parseFieldDescriptor (TX2 k).2.2.1 = some (tyX2 k) := by decide +kernel
abbrev cX2_init : ByteArray := prog_4_method_1_code
def yX2_init : MethodName := ⟨RX2, "<init>", "(LTreePress$Cursor;)V"⟩
abbrev cX2_readDoctype : ByteArray := prog_4_method_2_code
def yX2_readDoctype : MethodName := ⟨RX2, "readDoctype", "(LTreePress$Doc;)Z"⟩
abbrev cX2_readElement : ByteArray := prog_4_method_3_code
def yX2_readElement : MethodName := ⟨RX2, "readElement", "(LTreePress$Doc;I)Z"⟩
abbrev cX2_readMixed : ByteArray := prog_4_method_4_code
def yX2_readMixed : MethodName := ⟨RX2, "readMixed", "(LTreePress$Doc;I)Z"⟩
abbrev cX2_readGroup : ByteArray := prog_4_method_5_code
def yX2_readGroup : MethodName := ⟨RX2, "readGroup", "(LTreePress$Doc;I)Z"⟩
abbrev cX2_openGroup : ByteArray := prog_4_method_6_code
def yX2_openGroup : MethodName := ⟨RX2, "openGroup", "()V"⟩
abbrev cX2_closeGroup : ByteArray := prog_4_method_7_code
def yX2_closeGroup : MethodName := ⟨RX2, "closeGroup", "()V"⟩
abbrev cX2_readSign : ByteArray := prog_4_method_8_code
def yX2_readSign : MethodName := ⟨RX2, "readSign", "()Z"⟩
abbrev cX2_readPlace : ByteArray := prog_4_method_9_code
def yX2_readPlace : MethodName := ⟨RX2, "readPlace", "(LTreePress$Doc;I)Z"⟩
abbrev cX2_endPart : ByteArray := prog_4_method_10_code
def yX2_endPart : MethodName := ⟨RX2, "endPart", "(LTreePress$Specs;I)V"⟩
abbrev cX2_joinPart : ByteArray := prog_4_method_11_code
def yX2_joinPart : MethodName := ⟨RX2, "joinPart", "(LTreePress$Specs;II)V"⟩
abbrev cX2_readAttlist : ByteArray := prog_4_method_12_code
def yX2_readAttlist : MethodName := ⟨RX2, "readAttlist", "(LTreePress$Doc;)Z"⟩
abbrev cX2_readType : ByteArray := prog_4_method_13_code
def yX2_readType : MethodName := ⟨RX2, "readType", "(LTreePress$Rules;I)Z"⟩
abbrev cX2_readTokens : ByteArray := prog_4_method_14_code
def yX2_readTokens : MethodName := ⟨RX2, "readTokens", "(LTreePress$Rules;I)Z"⟩
abbrev cX2_readDefault : ByteArray := prog_4_method_15_code
def yX2_readDefault : MethodName := ⟨RX2, "readDefault", "(LTreePress$Doc;I)Z"⟩
def RX3 : String := "TreePress$Doc"
def TX3 : u_T := fun k => match k with
  | 0 => ("TreePress$Doc", "names", "LTreePress$Names;", true)
  | 1 => ("TreePress$Doc", "specs", "LTreePress$Specs;", true)
  | 2 => ("TreePress$Doc", "rules", "LTreePress$Rules;", true)
  | 3 => ("TreePress$Doc", "kind", "[I", true)
  | 4 => ("TreePress$Doc", "parent", "[I", true)
  | 5 => ("TreePress$Doc", "nameOf", "[I", true)
  | 6 => ("TreePress$Doc", "attributes", "[I", true)
  | 7 => ("TreePress$Doc", "inside", "[I", true)
  | 8 => ("TreePress$Doc", "flag", "[I", true)
  | 9 => ("TreePress$Doc", "end", "[I", true)
  | 10 => ("TreePress$Doc", "from", "[I", true)
  | 11 => ("TreePress$Doc", "to", "[I", true)
  | 12 => ("TreePress$Doc", "values", "[B", true)
  | 13 => ("TreePress$Doc", "texts", "[B", true)
  | 14 => ("TreePress$Doc", "valueSize", "I", false)
  | 15 => ("TreePress$Doc", "textSize", "I", false)
  | 16 => ("TreePress$Doc", "size", "I", false)
  | 17 => ("TreePress$Doc", "doctype", "I", false)
  | _ => ("TreePress$Doc", "deepest", "I", false)
def tyX3 : Nat → FieldType := fun k => match k with
  | 0 => .object "TreePress$Names"
  | 1 => .object "TreePress$Specs"
  | 2 => .object "TreePress$Rules"
  | 3 => .array .int
  | 4 => .array .int
  | 5 => .array .int
  | 6 => .array .int
  | 7 => .array .int
  | 8 => .array .int
  | 9 => .array .int
  | 10 => .array .int
  | 11 => .array .int
  | 12 => .array .byte
  | 13 => .array .byte
  | 14 => .int
  | 15 => .int
  | 16 => .int
  | 17 => .int
  | _ => .int
abbrev wsX30 : List Cond := u_ws RX3 TX3 19
theorem nmX3 : ∀ a, a < 19 → ∀ b, b < 19 → a ≠ b → (TX3 a).2.1 ≠ (TX3 b).2.1 := by decide +kernel
theorem tyX3_ok : ∀ k, k < 19 → parseFieldDescriptor (TX3 k).2.2.1 = some (tyX3 k) := by decide +kernel
abbrev cX3_init : ByteArray := prog_5_method_1_code
def yX3_init : MethodName := ⟨RX3, "<init>", "()V"⟩
abbrev cX3_begin : ByteArray := prog_5_method_2_code
def yX3_begin : MethodName := ⟨RX3, "begin", "([BI)V"⟩
abbrev cX3_has : ByteArray := prog_5_method_3_code
def yX3_has : MethodName := ⟨RX3, "has", "(I)Z"⟩
abbrev cX3_add : ByteArray := prog_5_method_4_code
def yX3_add : MethodName := ⟨RX3, "add", "(III)I"⟩
abbrev cX3_countIn : ByteArray := prog_5_method_5_code
def yX3_countIn : MethodName := ⟨RX3, "countIn", "(II)V"⟩
abbrev cX3_close : ByteArray := prog_5_method_6_code
def yX3_close : MethodName := ⟨RX3, "close", "(I)V"⟩
abbrev cX3_isFull : ByteArray := prog_5_method_7_code
def yX3_isFull : MethodName := ⟨RX3, "isFull", "()Z"⟩
abbrev cX3_addValueByte : ByteArray := prog_5_method_8_code
def yX3_addValueByte : MethodName := ⟨RX3, "addValueByte", "(I)Z"⟩
abbrev cX3_addTextByte : ByteArray := prog_5_method_9_code
def yX3_addTextByte : MethodName := ⟨RX3, "addTextByte", "(I)Z"⟩
abbrev cX3_about : ByteArray := prog_5_method_10_code
def yX3_about : MethodName := ⟨RX3, "about", "(II)I"⟩
abbrev cX3_stringByte : ByteArray := prog_5_method_11_code
def yX3_stringByte : MethodName := ⟨RX3, "stringByte", "(II)I"⟩
abbrev cX3_hasBytes : ByteArray := prog_5_method_12_code
def yX3_hasBytes : MethodName := ⟨RX3, "hasBytes", "(I[BI)Z"⟩
abbrev cX3_firstIn : ByteArray := prog_5_method_13_code
def yX3_firstIn : MethodName := ⟨RX3, "firstIn", "(I)I"⟩
abbrev cX3_attributeOf : ByteArray := prog_5_method_14_code
def yX3_attributeOf : MethodName := ⟨RX3, "attributeOf", "(II)I"⟩
abbrev cX3_textAt : ByteArray := prog_5_method_15_code
def yX3_textAt : MethodName := ⟨RX3, "textAt", "(I)I"⟩
def RX4 : String := "TreePress$Judge"
def TX4 : u_T := fun k => match k with
  | 0 => ("TreePress$Judge", "found", "[I", true)
  | 1 => ("TreePress$Judge", "ids", "[I", true)
  | 2 => ("TreePress$Judge", "idCount", "I", false)
  | _ => ("TreePress$Judge", "size", "I", false)
def tyX4 : Nat → FieldType := fun k => match k with
  | 0 => .array .int
  | 1 => .array .int
  | 2 => .int
  | _ => .int
abbrev wsX40 : List Cond := u_ws RX4 TX4 4
theorem nmX4 : ∀ a, a < 4 → ∀ b, b < 4 → a ≠ b → (TX4 a).2.1 ≠ (TX4 b).2.1 := by decide +kernel
theorem tyX4_ok : ∀ k, k < 4 → parseFieldDescriptor (TX4 k).2.2.1 = some (tyX4 k) := by decide +kernel
abbrev cX4_init : ByteArray := prog_6_method_1_code
def yX4_init : MethodName := ⟨RX4, "<init>", "()V"⟩
abbrev cX4_numberOf : ByteArray := prog_6_method_2_code
def yX4_numberOf : MethodName := ⟨RX4, "numberOf", "(I)I"⟩
abbrev cX4_subjectOf : ByteArray := prog_6_method_3_code
def yX4_subjectOf : MethodName := ⟨RX4, "subjectOf", "(I)I"⟩
abbrev cX4_report : ByteArray := prog_6_method_4_code
def yX4_report : MethodName := ⟨RX4, "report", "(II)V"⟩
abbrev cX4_judge : ByteArray := prog_6_method_5_code
def yX4_judge : MethodName := ⟨RX4, "judge", "(LTreePress$Doc;)V"⟩
abbrev cX4_judgeDeclarations : ByteArray := prog_6_method_6_code
def yX4_judgeDeclarations : MethodName := ⟨RX4, "judgeDeclarations", "(LTreePress$Doc;)V"⟩
abbrev cX4_judgeSpec : ByteArray := prog_6_method_7_code
def yX4_judgeSpec : MethodName := ⟨RX4, "judgeSpec", "(LTreePress$Doc;I)V"⟩
abbrev cX4_judgeRule : ByteArray := prog_6_method_8_code
def yX4_judgeRule : MethodName := ⟨RX4, "judgeRule", "(LTreePress$Doc;I)V"⟩
abbrev cX4_hasEarlierId : ByteArray := prog_6_method_9_code
def yX4_hasEarlierId : MethodName := ⟨RX4, "hasEarlierId", "(LTreePress$Doc;I)Z"⟩
abbrev cX4_isOfType : ByteArray := prog_6_method_10_code
def yX4_isOfType : MethodName := ⟨RX4, "isOfType", "(LTreePress$Doc;III)Z"⟩
abbrev cX4_isName : ByteArray := prog_6_method_11_code
def yX4_isName : MethodName := ⟨RX4, "isName", "(LTreePress$Doc;II)Z"⟩
abbrev cX4_isToken : ByteArray := prog_6_method_12_code
def yX4_isToken : MethodName := ⟨RX4, "isToken", "(LTreePress$Doc;III)Z"⟩
abbrev cX4_judgeElement : ByteArray := prog_6_method_13_code
def yX4_judgeElement : MethodName := ⟨RX4, "judgeElement", "(LTreePress$Doc;I)V"⟩
abbrev cX4_judgeAttribute : ByteArray := prog_6_method_14_code
def yX4_judgeAttribute : MethodName := ⟨RX4, "judgeAttribute", "(LTreePress$Doc;II)V"⟩
abbrev cX4_isAsFixed : ByteArray := prog_6_method_15_code
def yX4_isAsFixed : MethodName := ⟨RX4, "isAsFixed", "(LTreePress$Doc;II)Z"⟩
abbrev cX4_isTaken : ByteArray := prog_6_method_16_code
def yX4_isTaken : MethodName := ⟨RX4, "isTaken", "(LTreePress$Doc;I)Z"⟩
abbrev cX4_sameValue : ByteArray := prog_6_method_17_code
def yX4_sameValue : MethodName := ⟨RX4, "sameValue", "(LTreePress$Doc;III)Z"⟩
abbrev cX4_fits : ByteArray := prog_6_method_18_code
def yX4_fits : MethodName := ⟨RX4, "fits", "(LTreePress$Doc;II)Z"⟩
abbrev cX4_fitsLoosely : ByteArray := prog_6_method_19_code
def yX4_fitsLoosely : MethodName := ⟨RX4, "fitsLoosely", "(LTreePress$Doc;II)Z"⟩
abbrev cX4_fitsGroup : ByteArray := prog_6_method_20_code
def yX4_fitsGroup : MethodName := ⟨RX4, "fitsGroup", "(LTreePress$Doc;II)Z"⟩
def RX5 : String := "TreePress$Names"
def TX5 : u_T := fun k => match k with
  | 0 => ("TreePress$Names", "text", "[B", true)
  | 1 => ("TreePress$Names", "spec", "[I", true)
  | 2 => ("TreePress$Names", "rule", "[I", true)
  | 3 => ("TreePress$Names", "from", "[I", true)
  | 4 => ("TreePress$Names", "length", "[I", true)
  | 5 => ("TreePress$Names", "next", "[I", true)
  | 6 => ("TreePress$Names", "heads", "[I", true)
  | _ => ("TreePress$Names", "size", "I", false)
def tyX5 : Nat → FieldType := fun k => match k with
  | 0 => .array .byte
  | 1 => .array .int
  | 2 => .array .int
  | 3 => .array .int
  | 4 => .array .int
  | 5 => .array .int
  | 6 => .array .int
  | _ => .int
abbrev wsX50 : List Cond := u_ws RX5 TX5 8
theorem nmX5 : ∀ a, a < 8 → ∀ b, b < 8 → a ≠ b → (TX5 a).2.1 ≠ (TX5 b).2.1 := by decide +kernel
theorem tyX5_ok : ∀ k, k < 8 → parseFieldDescriptor (TX5 k).2.2.1 = some (tyX5 k) := by decide +kernel
abbrev cX5_init : ByteArray := prog_7_method_1_code
def yX5_init : MethodName := ⟨RX5, "<init>", "()V"⟩
abbrev cX5_begin : ByteArray := prog_7_method_2_code
def yX5_begin : MethodName := ⟨RX5, "begin", "([BI)V"⟩
abbrev cX5_bucketOf : ByteArray := prog_7_method_3_code
def yX5_bucketOf : MethodName := ⟨RX5, "bucketOf", "(LTreePress$Cursor;)I"⟩
abbrev cX5_find : ByteArray := prog_7_method_4_code
def yX5_find : MethodName := ⟨RX5, "find", "(LTreePress$Cursor;)I"⟩
abbrev cX5_isThat : ByteArray := prog_7_method_5_code
def yX5_isThat : MethodName := ⟨RX5, "isThat", "(ILTreePress$Cursor;)Z"⟩
abbrev cX5_keep : ByteArray := prog_7_method_6_code
def yX5_keep : MethodName := ⟨RX5, "keep", "(LTreePress$Cursor;)I"⟩
abbrev cX5_has : ByteArray := prog_7_method_7_code
def yX5_has : MethodName := ⟨RX5, "has", "(I)Z"⟩
abbrev cX5_lengthOf : ByteArray := prog_7_method_8_code
def yX5_lengthOf : MethodName := ⟨RX5, "lengthOf", "(I)I"⟩
abbrev cX5_byteOf : ByteArray := prog_7_method_9_code
def yX5_byteOf : MethodName := ⟨RX5, "byteOf", "(II)I"⟩
abbrev cX5_specOf : ByteArray := prog_7_method_10_code
def yX5_specOf : MethodName := ⟨RX5, "specOf", "(I)I"⟩
abbrev cX5_ruleOf : ByteArray := prog_7_method_11_code
def yX5_ruleOf : MethodName := ⟨RX5, "ruleOf", "(I)I"⟩
def RX6 : String := "TreePress$Path"
def TX6 : u_T := fun k => match k with
  | 0 => ("TreePress$Path", "cursor", "LTreePress$Cursor;", true)
  | 1 => ("TreePress$Path", "kind", "[I", true)
  | 2 => ("TreePress$Path", "stepName", "[I", true)
  | 3 => ("TreePress$Path", "deep", "[B", true)
  | 4 => ("TreePress$Path", "brackets", "[I", true)
  | 5 => ("TreePress$Path", "test", "[I", true)
  | 6 => ("TreePress$Path", "wanted", "[I", true)
  | 7 => ("TreePress$Path", "quotedFrom", "[I", true)
  | 8 => ("TreePress$Path", "quotedLength", "[I", true)
  | 9 => ("TreePress$Path", "steps", "I", false)
  | _ => ("TreePress$Path", "fromRoot", "Z", false)
def tyX6 : Nat → FieldType := fun k => match k with
  | 0 => .object "TreePress$Cursor"
  | 1 => .array .int
  | 2 => .array .int
  | 3 => .array .byte
  | 4 => .array .int
  | 5 => .array .int
  | 6 => .array .int
  | 7 => .array .int
  | 8 => .array .int
  | 9 => .int
  | _ => .boolean
abbrev wsX60 : List Cond := u_ws RX6 TX6 11
theorem nmX6 : ∀ a, a < 11 → ∀ b, b < 11 → a ≠ b → (TX6 a).2.1 ≠ (TX6 b).2.1 := by decide +kernel
theorem tyX6_ok : ∀ k, k < 11 → parseFieldDescriptor (TX6 k).2.2.1 = some (tyX6 k) := by decide +kernel
abbrev cX6_init : ByteArray := prog_8_method_1_code
def yX6_init : MethodName := ⟨RX6, "<init>", "(LTreePress$Cursor;)V"⟩
abbrev cX6_quotedBytes : ByteArray := prog_8_method_2_code
def yX6_quotedBytes : MethodName := ⟨RX6, "quotedBytes", "()[B"⟩
abbrev cX6_parse : ByteArray := prog_8_method_3_code
def yX6_parse : MethodName := ⟨RX6, "parse", "(LTreePress$Names;)Z"⟩
abbrev cX6_readStep : ByteArray := prog_8_method_4_code
def yX6_readStep : MethodName := ⟨RX6, "readStep", "(LTreePress$Names;Z)Z"⟩
abbrev cX6_readBrackets : ByteArray := prog_8_method_5_code
def yX6_readBrackets : MethodName := ⟨RX6, "readBrackets", "(LTreePress$Names;I)Z"⟩
abbrev cX6_readBracket : ByteArray := prog_8_method_6_code
def yX6_readBracket : MethodName := ⟨RX6, "readBracket", "(LTreePress$Names;I)Z"⟩
abbrev cX6_takeNumber : ByteArray := prog_8_method_7_code
def yX6_takeNumber : MethodName := ⟨RX6, "takeNumber", "()I"⟩
abbrev cX6_readQuoted : ByteArray := prog_8_method_8_code
def yX6_readQuoted : MethodName := ⟨RX6, "readQuoted", "(I)Z"⟩
def RX7 : String := "TreePress$Rules"
def TX7 : u_T := fun k => match k with
  | 0 => ("TreePress$Rules", "attribute", "[I", true)
  | 1 => ("TreePress$Rules", "owner", "[I", true)
  | 2 => ("TreePress$Rules", "type", "[I", true)
  | 3 => ("TreePress$Rules", "firstToken", "[I", true)
  | 4 => ("TreePress$Rules", "tokens", "[I", true)
  | 5 => ("TreePress$Rules", "usage", "[I", true)
  | 6 => ("TreePress$Rules", "valueFrom", "[I", true)
  | 7 => ("TreePress$Rules", "valueTo", "[I", true)
  | 8 => ("TreePress$Rules", "next", "[I", true)
  | 9 => ("TreePress$Rules", "tokenFrom", "[I", true)
  | 10 => ("TreePress$Rules", "tokenLength", "[I", true)
  | 11 => ("TreePress$Rules", "size", "I", false)
  | _ => ("TreePress$Rules", "tokenSize", "I", false)
def tyX7 : Nat → FieldType := fun k => match k with
  | 0 => .array .int
  | 1 => .array .int
  | 2 => .array .int
  | 3 => .array .int
  | 4 => .array .int
  | 5 => .array .int
  | 6 => .array .int
  | 7 => .array .int
  | 8 => .array .int
  | 9 => .array .int
  | 10 => .array .int
  | 11 => .int
  | _ => .int
abbrev wsX70 : List Cond := u_ws RX7 TX7 13
theorem nmX7 : ∀ a, a < 13 → ∀ b, b < 13 → a ≠ b → (TX7 a).2.1 ≠ (TX7 b).2.1 := by decide +kernel
theorem tyX7_ok : ∀ k, k < 13 → parseFieldDescriptor (TX7 k).2.2.1 = some (tyX7 k) := by decide +kernel
abbrev cX7_init : ByteArray := prog_9_method_1_code
def yX7_init : MethodName := ⟨RX7, "<init>", "()V"⟩
abbrev cX7_begin : ByteArray := prog_9_method_2_code
def yX7_begin : MethodName := ⟨RX7, "begin", "()V"⟩
abbrev cX7_hasValue : ByteArray := prog_9_method_3_code
def yX7_hasValue : MethodName := ⟨RX7, "hasValue", "(I)Z"⟩
abbrev cX7_find : ByteArray := prog_9_method_4_code
def yX7_find : MethodName := ⟨RX7, "find", "(II)I"⟩
abbrev cX7_chainLength : ByteArray := prog_9_method_5_code
def yX7_chainLength : MethodName := ⟨RX7, "chainLength", "(I)I"⟩
abbrev cX7_add : ByteArray := prog_9_method_6_code
def yX7_add : MethodName := ⟨RX7, "add", "(LTreePress$Names;II)I"⟩
abbrev cX7_addToken : ByteArray := prog_9_method_7_code
def yX7_addToken : MethodName := ⟨RX7, "addToken", "(III)V"⟩
def RX8 : String := "TreePress$Selector"
def TX8 : u_T := fun k => match k with
  | 0 => ("TreePress$Selector", "chosen", "[I", true)
  | 1 => ("TreePress$Selector", "size", "I", false)
  | 2 => ("TreePress$Selector", "now", "[B", false)
  | 3 => ("TreePress$Selector", "then", "[B", false)
  | 4 => ("TreePress$Selector", "row", "[I", true)
  | _ => ("TreePress$Selector", "rowSize", "I", false)
def tyX8 : Nat → FieldType := fun k => match k with
  | 0 => .array .int
  | 1 => .int
  | 2 => .array .byte
  | 3 => .array .byte
  | 4 => .array .int
  | _ => .int
abbrev wsX80 : List Cond := u_ws RX8 TX8 6
theorem nmX8 : ∀ a, a < 6 → ∀ b, b < 6 → a ≠ b → (TX8 a).2.1 ≠ (TX8 b).2.1 := by decide +kernel
theorem tyX8_ok : ∀ k, k < 6 → parseFieldDescriptor (TX8 k).2.2.1 = some (tyX8 k) := by decide +kernel
abbrev cX8_init : ByteArray := prog_10_method_1_code
def yX8_init : MethodName := ⟨RX8, "<init>", "()V"⟩
abbrev cX8_forget : ByteArray := prog_10_method_2_code
def yX8_forget : MethodName := ⟨RX8, "forget", "()V"⟩
abbrev cX8_follow : ByteArray := prog_10_method_3_code
def yX8_follow : MethodName := ⟨RX8, "follow", "(LTreePress$Doc;LTreePress$Path;I)V"⟩
abbrev cX8_spread : ByteArray := prog_10_method_4_code
def yX8_spread : MethodName := ⟨RX8, "spread", "(LTreePress$Doc;)V"⟩
abbrev cX8_takeStep : ByteArray := prog_10_method_5_code
def yX8_takeStep : MethodName := ⟨RX8, "takeStep", "(LTreePress$Doc;LTreePress$Path;I)V"⟩
abbrev cX8_lead : ByteArray := prog_10_method_6_code
def yX8_lead : MethodName := ⟨RX8, "lead", "(LTreePress$Doc;LTreePress$Path;II)V"⟩
abbrev cX8_leadInto : ByteArray := prog_10_method_7_code
def yX8_leadInto : MethodName := ⟨RX8, "leadInto", "(LTreePress$Doc;III)V"⟩
abbrev cX8_push : ByteArray := prog_10_method_8_code
def yX8_push : MethodName := ⟨RX8, "push", "(I)V"⟩
abbrev cX8_sift : ByteArray := prog_10_method_9_code
def yX8_sift : MethodName := ⟨RX8, "sift", "(LTreePress$Doc;LTreePress$Path;I)V"⟩
abbrev cX8_passes : ByteArray := prog_10_method_10_code
def yX8_passes : MethodName := ⟨RX8, "passes", "(LTreePress$Doc;LTreePress$Path;II)Z"⟩
abbrev cX8_isQuoted : ByteArray := prog_10_method_11_code
def yX8_isQuoted : MethodName := ⟨RX8, "isQuoted", "(LTreePress$Doc;LTreePress$Path;II)Z"⟩
def RX9 : String := "TreePress$Specs"
def TX9 : u_T := fun k => match k with
  | 0 => ("TreePress$Specs", "kind", "[I", true)
  | 1 => ("TreePress$Specs", "owner", "[I", true)
  | 2 => ("TreePress$Specs", "rulesAhead", "[I", true)
  | 3 => ("TreePress$Specs", "places", "[I", true)
  | 4 => ("TreePress$Specs", "nameAt", "[I", true)
  | 5 => ("TreePress$Specs", "followers", "[J", true)
  | 6 => ("TreePress$Specs", "twins", "[J", true)
  | 7 => ("TreePress$Specs", "first", "[J", true)
  | 8 => ("TreePress$Specs", "last", "[J", true)
  | 9 => ("TreePress$Specs", "mayBeEmpty", "[B", true)
  | _ => ("TreePress$Specs", "size", "I", false)
def tyX9 : Nat → FieldType := fun k => match k with
  | 0 => .array .int
  | 1 => .array .int
  | 2 => .array .int
  | 3 => .array .int
  | 4 => .array .int
  | 5 => .array .long
  | 6 => .array .long
  | 7 => .array .long
  | 8 => .array .long
  | 9 => .array .byte
  | _ => .int
abbrev wsX90 : List Cond := u_ws RX9 TX9 11
theorem nmX9 : ∀ a, a < 11 → ∀ b, b < 11 → a ≠ b → (TX9 a).2.1 ≠ (TX9 b).2.1 := by decide +kernel
theorem tyX9_ok : ∀ k, k < 11 → parseFieldDescriptor (TX9 k).2.2.1 = some (tyX9 k) := by decide +kernel
abbrev cX9_init : ByteArray := prog_11_method_1_code
def yX9_init : MethodName := ⟨RX9, "<init>", "()V"⟩
abbrev cX9_add : ByteArray := prog_11_method_2_code
def yX9_add : MethodName := ⟨RX9, "add", "(II)I"⟩
abbrev cX9_addPlace : ByteArray := prog_11_method_3_code
def yX9_addPlace : MethodName := ⟨RX9, "addPlace", "(II)I"⟩
abbrev cX9_link : ByteArray := prog_11_method_4_code
def yX9_link : MethodName := ⟨RX9, "link", "(IJJ)V"⟩
abbrev cX9_named : ByteArray := prog_11_method_5_code
def yX9_named : MethodName := ⟨RX9, "named", "(IJI)J"⟩
abbrev cX9_behind : ByteArray := prog_11_method_6_code
def yX9_behind : MethodName := ⟨RX9, "behind", "(IJ)J"⟩
abbrev cX9_repeats : ByteArray := prog_11_method_7_code
def yX9_repeats : MethodName := ⟨RX9, "repeats", "(IJ)Z"⟩
abbrev cX9_isDeterministic : ByteArray := prog_11_method_8_code
def yX9_isDeterministic : MethodName := ⟨RX9, "isDeterministic", "(I)Z"⟩
def RX10 : String := "TreePress$TreeReader"
def TX10 : u_T := fun k => match k with
  | 0 => ("TreePress$TreeReader", "cursor", "LTreePress$Cursor;", true)
  | 1 => ("TreePress$TreeReader", "current", "I", false)
  | _ => ("TreePress$TreeReader", "depth", "I", false)
def tyX10 : Nat → FieldType := fun k => match k with
  | 0 => .object "TreePress$Cursor"
  | 1 => .int
  | _ => .int
abbrev wsX100 : List Cond := u_ws RX10 TX10 3
theorem nmX10 : ∀ a, a < 3 → ∀ b, b < 3 → a ≠ b → (TX10 a).2.1 ≠ (TX10 b).2.1 := by decide +kernel
theorem tyX10_ok : ∀ k, k < 3 → parseFieldDescriptor (TX10 k).2.2.1 = some (tyX10 k) := by decide +kernel
abbrev cX10_init : ByteArray := prog_12_method_1_code
def yX10_init : MethodName := ⟨RX10, "<init>", "(LTreePress$Cursor;)V"⟩
abbrev cX10_readTree : ByteArray := prog_12_method_2_code
def yX10_readTree : MethodName := ⟨RX10, "readTree", "(LTreePress$Doc;)Z"⟩
abbrev cX10_readTag : ByteArray := prog_12_method_3_code
def yX10_readTag : MethodName := ⟨RX10, "readTag", "(LTreePress$Doc;)Z"⟩
abbrev cX10_readAttribute : ByteArray := prog_12_method_4_code
def yX10_readAttribute : MethodName := ⟨RX10, "readAttribute", "(LTreePress$Doc;)Z"⟩
abbrev cX10_addAttribute : ByteArray := prog_12_method_5_code
def yX10_addAttribute : MethodName := ⟨RX10, "addAttribute", "(LTreePress$Doc;I)I"⟩
abbrev cX10_addDefaults : ByteArray := prog_12_method_6_code
def yX10_addDefaults : MethodName := ⟨RX10, "addDefaults", "(LTreePress$Doc;)Z"⟩
abbrev cX10_readText : ByteArray := prog_12_method_7_code
def yX10_readText : MethodName := ⟨RX10, "readText", "(LTreePress$Doc;)Z"⟩
abbrev cX10_readEndTag : ByteArray := prog_12_method_8_code
def yX10_readEndTag : MethodName := ⟨RX10, "readEndTag", "(LTreePress$Doc;)Z"⟩
abbrev cX10_leave : ByteArray := prog_12_method_9_code
def yX10_leave : MethodName := ⟨RX10, "leave", "(LTreePress$Doc;)V"⟩
def RX11 : String := "TreePress"
def TX11 : u_T := fun k => match k with
  | 0 => ("TreePress", "tape", "[B", true)
  | 1 => ("TreePress", "cursor", "LTreePress$Cursor;", true)
  | 2 => ("TreePress", "declarations", "LTreePress$DeclarationReader;", true)
  | 3 => ("TreePress", "trees", "LTreePress$TreeReader;", true)
  | 4 => ("TreePress", "judge", "LTreePress$Judge;", true)
  | 5 => ("TreePress", "path", "LTreePress$Path;", true)
  | 6 => ("TreePress", "selector", "LTreePress$Selector;", true)
  | 7 => ("TreePress", "composer", "LTreePress$Composer;", true)
  | 8 => ("TreePress", "doc", "LTreePress$Doc;", false)
  | 9 => ("TreePress", "spare", "LTreePress$Doc;", false)
  | 10 => ("TreePress", "tapeSize", "I", false)
  | _ => ("TreePress", "troubleAt", "I", false)
def tyX11 : Nat → FieldType := fun k => match k with
  | 0 => .array .byte
  | 1 => .object "TreePress$Cursor"
  | 2 => .object "TreePress$DeclarationReader"
  | 3 => .object "TreePress$TreeReader"
  | 4 => .object "TreePress$Judge"
  | 5 => .object "TreePress$Path"
  | 6 => .object "TreePress$Selector"
  | 7 => .object "TreePress$Composer"
  | 8 => .object "TreePress$Doc"
  | 9 => .object "TreePress$Doc"
  | 10 => .int
  | _ => .int
abbrev wsX110 : List Cond := u_ws RX11 TX11 12
theorem nmX11 : ∀ a, a < 12 → ∀ b, b < 12 → a ≠ b → (TX11 a).2.1 ≠ (TX11 b).2.1 := by decide +kernel
theorem tyX11_ok : ∀ k, k < 12 → parseFieldDescriptor (TX11 k).2.2.1 = some (tyX11 k) := by decide +kernel
abbrev cX11_init : ByteArray := prog_1_method_1_code
def yX11_init : MethodName := ⟨RX11, "<init>", "()V"⟩
abbrev cX11_feed : ByteArray := prog_1_method_2_code
def yX11_feed : MethodName := ⟨RX11, "feed", "(IIIII)I"⟩
abbrev cX11_keepNumber : ByteArray := prog_1_method_3_code
def yX11_keepNumber : MethodName := ⟨RX11, "keepNumber", "(I)V"⟩
abbrev cX11_read : ByteArray := prog_1_method_4_code
def yX11_read : MethodName := ⟨RX11, "read", "(I)I"⟩
abbrev cX11_place : ByteArray := prog_1_method_5_code
def yX11_place : MethodName := ⟨RX11, "place", "()I"⟩
abbrev cX11_node : ByteArray := prog_1_method_6_code
def yX11_node : MethodName := ⟨RX11, "node", "(II)I"⟩
abbrev cX11_name : ByteArray := prog_1_method_7_code
def yX11_name : MethodName := ⟨RX11, "name", "(II)I"⟩
abbrev cX11_string : ByteArray := prog_1_method_8_code
def yX11_string : MethodName := ⟨RX11, "string", "(II)I"⟩
abbrev cX11_findings : ByteArray := prog_1_method_9_code
def yX11_findings : MethodName := ⟨RX11, "findings", "()I"⟩
abbrev cX11_finding : ByteArray := prog_1_method_10_code
def yX11_finding : MethodName := ⟨RX11, "finding", "(II)I"⟩
abbrev cX11_select : ByteArray := prog_1_method_11_code
def yX11_select : MethodName := ⟨RX11, "select", "(II)I"⟩
abbrev cX11_told : ByteArray := prog_1_method_12_code
def yX11_told : MethodName := ⟨RX11, "told", "(I)I"⟩
abbrev cX11_set : ByteArray := prog_1_method_13_code
def yX11_set : MethodName := ⟨RX11, "set", "(II)I"⟩
abbrev cX11_line : ByteArray := prog_1_method_14_code
def yX11_line : MethodName := ⟨RX11, "line", "(II)I"⟩
abbrev cX11_at : ByteArray := prog_1_method_15_code
def yX11_at : MethodName := ⟨RX11, "at", "(II)I"⟩
abbrev cX11_count : ByteArray := prog_1_method_16_code
def yX11_count : MethodName := ⟨RX11, "count", "(I)I"⟩
def RX12 : String := "TreePressModel"
def TX12 : u_T := fun k => match k with
  | 0 => ("TreePressModel", "tape", "[B", true)
  | 1 => ("TreePressModel", "taped", "I", false)
  | 2 => ("TreePressModel", "row", "[B", true)
  | 3 => ("TreePressModel", "size", "I", false)
  | 4 => ("TreePressModel", "at", "I", false)
  | 5 => ("TreePressModel", "wrong", "I", false)
  | 6 => ("TreePressModel", "place", "I", false)
  | 7 => ("TreePressModel", "bank", "I", false)
  | 8 => ("TreePressModel", "b", "I", false)
  | 9 => ("TreePressModel", "isThere", "Z", false)
  | 10 => ("TreePressModel", "hasType", "[Z", true)
  | 11 => ("TreePressModel", "texts", "[B", true)
  | 12 => ("TreePressModel", "nodes", "[I", true)
  | 13 => ("TreePressModel", "kind", "[I", true)
  | 14 => ("TreePressModel", "up", "[I", true)
  | 15 => ("TreePressModel", "nameFrom", "[I", true)
  | 16 => ("TreePressModel", "nameSize", "[I", true)
  | 17 => ("TreePressModel", "stringFrom", "[I", true)
  | 18 => ("TreePressModel", "stringSize", "[I", true)
  | 19 => ("TreePressModel", "byDefault", "[Z", true)
  | 20 => ("TreePressModel", "isBlank", "[Z", true)
  | 21 => ("TreePressModel", "pool", "[B", true)
  | 22 => ("TreePressModel", "pooled", "[I", true)
  | 23 => ("TreePressModel", "deepest", "[I", true)
  | 24 => ("TreePressModel", "typeFrom", "[I", true)
  | 25 => ("TreePressModel", "typeSize", "[I", true)
  | 26 => ("TreePressModel", "decls", "[I", true)
  | 27 => ("TreePressModel", "declFrom", "[I", true)
  | 28 => ("TreePressModel", "declSize", "[I", true)
  | 29 => ("TreePressModel", "spec", "[I", true)
  | 30 => ("TreePressModel", "specMany", "[I", true)
  | 31 => ("TreePressModel", "specFrom", "[I", true)
  | 32 => ("TreePressModel", "specSize", "[I", true)
  | 33 => ("TreePressModel", "firsts", "[J", true)
  | 34 => ("TreePressModel", "lasts", "[J", true)
  | 35 => ("TreePressModel", "mayBeNone", "[Z", true)
  | 36 => ("TreePressModel", "follows", "[J", true)
  | 37 => ("TreePressModel", "rules", "[I", true)
  | 38 => ("TreePressModel", "ruleOfFrom", "[I", true)
  | 39 => ("TreePressModel", "ruleOfSize", "[I", true)
  | 40 => ("TreePressModel", "ruleFrom", "[I", true)
  | 41 => ("TreePressModel", "ruleSize", "[I", true)
  | 42 => ("TreePressModel", "ruleType", "[I", true)
  | 43 => ("TreePressModel", "ruleHow", "[I", true)
  | 44 => ("TreePressModel", "ruleValue", "[I", true)
  | 45 => ("TreePressModel", "ruleValueSize", "[I", true)
  | 46 => ("TreePressModel", "tokenMany", "[I", true)
  | 47 => ("TreePressModel", "tokenFrom", "[I", true)
  | 48 => ("TreePressModel", "tokenSize", "[I", true)
  | 49 => ("TreePressModel", "stood", "[I", true)
  | 50 => ("TreePressModel", "stoodMany", "[I", true)
  | 51 => ("TreePressModel", "sized", "I", false)
  | 52 => ("TreePressModel", "byRef", "Z", false)
  | 53 => ("TreePressModel", "piece", "I", false)
  | 54 => ("TreePressModel", "signs", "[I", true)
  | 55 => ("TreePressModel", "begun", "[Z", true)
  | 56 => ("TreePressModel", "none", "[Z", true)
  | 57 => ("TreePressModel", "first", "[J", true)
  | 58 => ("TreePressModel", "last", "[J", true)
  | 59 => ("TreePressModel", "partNone", "Z", false)
  | 60 => ("TreePressModel", "partFirst", "J", false)
  | 61 => ("TreePressModel", "partLast", "J", false)
  | 62 => ("TreePressModel", "rulesOf", "I", false)
  | 63 => ("TreePressModel", "open", "[I", true)
  | 64 => ("TreePressModel", "deep", "I", false)
  | 65 => ("TreePressModel", "findings", "I", false)
  | 66 => ("TreePressModel", "found", "[I", true)
  | 67 => ("TreePressModel", "foundAt", "[I", true)
  | 68 => ("TreePressModel", "tolds", "I", false)
  | 69 => ("TreePressModel", "tolds0", "[I", true)
  | 70 => ("TreePressModel", "so", "[Z", true)
  | 71 => ("TreePressModel", "then", "[Z", true)
  | 72 => ("TreePressModel", "mine", "[Z", true)
  | 73 => ("TreePressModel", "stepHow", "[I", true)
  | 74 => ("TreePressModel", "stepDeep", "[Z", true)
  | 75 => ("TreePressModel", "stepFrom", "[I", true)
  | 76 => ("TreePressModel", "stepSize", "[I", true)
  | 77 => ("TreePressModel", "filterMany", "[I", true)
  | 78 => ("TreePressModel", "filterHow", "[I", true)
  | 79 => ("TreePressModel", "filterFrom", "[I", true)
  | 80 => ("TreePressModel", "filterSize", "[I", true)
  | 81 => ("TreePressModel", "filterOfAttribute", "[Z", true)
  | 82 => ("TreePressModel", "quotedFrom", "[I", true)
  | 83 => ("TreePressModel", "quotedSize", "[I", true)
  | 84 => ("TreePressModel", "steps", "I", false)
  | 85 => ("TreePressModel", "fromRoot", "Z", false)
  | 86 => ("TreePressModel", "lines", "I", false)
  | 87 => ("TreePressModel", "pages", "I", false)
  | 88 => ("TreePressModel", "lineBytes", "[B", true)
  | 89 => ("TreePressModel", "lineSize", "[I", true)
  | 90 => ("TreePressModel", "linePage", "[I", true)
  | 91 => ("TreePressModel", "linePlace", "[I", true)
  | 92 => ("TreePressModel", "lineText", "[I", true)
  | 93 => ("TreePressModel", "blockFrom", "[I", true)
  | 94 => ("TreePressModel", "blockTo", "[I", true)
  | 95 => ("TreePressModel", "blocks", "I", false)
  | 96 => ("TreePressModel", "word", "[B", true)
  | 97 => ("TreePressModel", "wordText", "[I", true)
  | 98 => ("TreePressModel", "wordSize", "I", false)
  | 99 => ("TreePressModel", "isOpenLine", "Z", false)
  | 100 => ("TreePressModel", "wide", "I", false)
  | _ => ("TreePressModel", "blockOf", "[I", true)
def tyX12 : Nat → FieldType := fun k => match k with
  | 0 => .array .byte
  | 1 => .int
  | 2 => .array .byte
  | 3 => .int
  | 4 => .int
  | 5 => .int
  | 6 => .int
  | 7 => .int
  | 8 => .int
  | 9 => .boolean
  | 10 => .array .boolean
  | 11 => .array .byte
  | 12 => .array .int
  | 13 => .array .int
  | 14 => .array .int
  | 15 => .array .int
  | 16 => .array .int
  | 17 => .array .int
  | 18 => .array .int
  | 19 => .array .boolean
  | 20 => .array .boolean
  | 21 => .array .byte
  | 22 => .array .int
  | 23 => .array .int
  | 24 => .array .int
  | 25 => .array .int
  | 26 => .array .int
  | 27 => .array .int
  | 28 => .array .int
  | 29 => .array .int
  | 30 => .array .int
  | 31 => .array .int
  | 32 => .array .int
  | 33 => .array .long
  | 34 => .array .long
  | 35 => .array .boolean
  | 36 => .array .long
  | 37 => .array .int
  | 38 => .array .int
  | 39 => .array .int
  | 40 => .array .int
  | 41 => .array .int
  | 42 => .array .int
  | 43 => .array .int
  | 44 => .array .int
  | 45 => .array .int
  | 46 => .array .int
  | 47 => .array .int
  | 48 => .array .int
  | 49 => .array .int
  | 50 => .array .int
  | 51 => .int
  | 52 => .boolean
  | 53 => .int
  | 54 => .array .int
  | 55 => .array .boolean
  | 56 => .array .boolean
  | 57 => .array .long
  | 58 => .array .long
  | 59 => .boolean
  | 60 => .long
  | 61 => .long
  | 62 => .int
  | 63 => .array .int
  | 64 => .int
  | 65 => .int
  | 66 => .array .int
  | 67 => .array .int
  | 68 => .int
  | 69 => .array .int
  | 70 => .array .boolean
  | 71 => .array .boolean
  | 72 => .array .boolean
  | 73 => .array .int
  | 74 => .array .boolean
  | 75 => .array .int
  | 76 => .array .int
  | 77 => .array .int
  | 78 => .array .int
  | 79 => .array .int
  | 80 => .array .int
  | 81 => .array .boolean
  | 82 => .array .int
  | 83 => .array .int
  | 84 => .int
  | 85 => .boolean
  | 86 => .int
  | 87 => .int
  | 88 => .array .byte
  | 89 => .array .int
  | 90 => .array .int
  | 91 => .array .int
  | 92 => .array .int
  | 93 => .array .int
  | 94 => .array .int
  | 95 => .int
  | 96 => .array .byte
  | 97 => .array .int
  | 98 => .int
  | 99 => .boolean
  | 100 => .int
  | _ => .array .int
abbrev wsX120 : List Cond := u_ws RX12 TX12 102
theorem nmX12 : ∀ a, a < 102 → ∀ b, b < 102 → a ≠ b → (TX12 a).2.1 ≠ (TX12 b).2.1 := by decide +kernel
theorem tyX12_ok : ∀ k, k < 102 → parseFieldDescriptor (TX12 k).2.2.1 = some (tyX12 k) := by decide +kernel
abbrev cX12_init : ByteArray := prog_14_method_1_code
def yX12_init : MethodName := ⟨RX12, "<init>", "()V"⟩
abbrev cX12_in : ByteArray := prog_14_method_3_code
def yX12_in : MethodName := ⟨RX12, "in", "(JJJ)Z"⟩
abbrev cX12_fail : ByteArray := prog_14_method_4_code
def yX12_fail : MethodName := ⟨RX12, "fail", "(II)V"⟩
abbrev cX12_octet : ByteArray := prog_14_method_5_code
def yX12_octet : MethodName := ⟨RX12, "octet", "(I)I"⟩
abbrev cX12_isGood : ByteArray := prog_14_method_6_code
def yX12_isGood : MethodName := ⟨RX12, "isGood", "()Z"⟩
abbrev cX12_isS : ByteArray := prog_14_method_7_code
def yX12_isS : MethodName := ⟨RX12, "isS", "(I)Z"⟩
abbrev cX12_isChar : ByteArray := prog_14_method_8_code
def yX12_isChar : MethodName := ⟨RX12, "isChar", "(I)Z"⟩
abbrev cX12_isFirst : ByteArray := prog_14_method_9_code
def yX12_isFirst : MethodName := ⟨RX12, "isFirst", "(I)Z"⟩
abbrev cX12_isNext : ByteArray := prog_14_method_10_code
def yX12_isNext : MethodName := ⟨RX12, "isNext", "(I)Z"⟩
abbrev cX12_stands : ByteArray := prog_14_method_11_code
def yX12_stands : MethodName := ⟨RX12, "stands", "(JI)Z"⟩
abbrev cX12_stands2 : ByteArray := prog_14_method_12_code
def yX12_stands2 : MethodName := ⟨RX12, "stands2", "(JJI)Z"⟩
abbrev cX12_passes : ByteArray := prog_14_method_13_code
def yX12_passes : MethodName := ⟨RX12, "passes", "(I)Z"⟩
abbrev cX12_maybeS : ByteArray := prog_14_method_14_code
def yX12_maybeS : MethodName := ⟨RX12, "maybeS", "()V"⟩
abbrev cX12_mustS : ByteArray := prog_14_method_15_code
def yX12_mustS : MethodName := ⟨RX12, "mustS", "()V"⟩
abbrev cX12_takeName : ByteArray := prog_14_method_16_code
def yX12_takeName : MethodName := ⟨RX12, "takeName", "()I"⟩
abbrev cX12_isSame : ByteArray := prog_14_method_17_code
def yX12_isSame : MethodName := ⟨RX12, "isSame", "(IIII)Z"⟩
abbrev cX12_takePiece : ByteArray := prog_14_method_18_code
def yX12_takePiece : MethodName := ⟨RX12, "takePiece", "()I"⟩
abbrev cX12_keep : ByteArray := prog_14_method_19_code
def yX12_keep : MethodName := ⟨RX12, "keep", "(II)V"⟩
abbrev cX12_value : ByteArray := prog_14_method_20_code
def yX12_value : MethodName := ⟨RX12, "value", "()I"⟩
abbrev cX12_comment : ByteArray := prog_14_method_21_code
def yX12_comment : MethodName := ⟨RX12, "comment", "()V"⟩
abbrev cX12_misc : ByteArray := prog_14_method_22_code
def yX12_misc : MethodName := ⟨RX12, "misc", "()V"⟩
abbrev cX12_doctype : ByteArray := prog_14_method_23_code
def yX12_doctype : MethodName := ⟨RX12, "doctype", "()V"⟩
abbrev cX12_declaration : ByteArray := prog_14_method_24_code
def yX12_declaration : MethodName := ⟨RX12, "declaration", "()V"⟩
abbrev cX12_specName : ByteArray := prog_14_method_25_code
def yX12_specName : MethodName := ⟨RX12, "specName", "(I)I"⟩
abbrev cX12_mixed : ByteArray := prog_14_method_26_code
def yX12_mixed : MethodName := ⟨RX12, "mixed", "(I)V"⟩
abbrev cX12_joinFollows : ByteArray := prog_14_method_27_code
def yX12_joinFollows : MethodName := ⟨RX12, "joinFollows", "(IJJ)V"⟩
abbrev cX12_mark : ByteArray := prog_14_method_28_code
def yX12_mark : MethodName := ⟨RX12, "mark", "(I)V"⟩
abbrev cX12_comes : ByteArray := prog_14_method_29_code
def yX12_comes : MethodName := ⟨RX12, "comes", "(II)V"⟩
abbrev cX12_openGroup : ByteArray := prog_14_method_30_code
def yX12_openGroup : MethodName := ⟨RX12, "openGroup", "(I)V"⟩
abbrev cX12_group : ByteArray := prog_14_method_31_code
def yX12_group : MethodName := ⟨RX12, "group", "(I)V"⟩
abbrev cX12_hasRule : ByteArray := prog_14_method_32_code
def yX12_hasRule : MethodName := ⟨RX12, "hasRule", "(IIII)Z"⟩
abbrev cX12_attributeList : ByteArray := prog_14_method_33_code
def yX12_attributeList : MethodName := ⟨RX12, "attributeList", "()V"⟩
abbrev cX12_rule : ByteArray := prog_14_method_34_code
def yX12_rule : MethodName := ⟨RX12, "rule", "(II)V"⟩
abbrev cX12_tokens : ByteArray := prog_14_method_35_code
def yX12_tokens : MethodName := ⟨RX12, "tokens", "(I)V"⟩
abbrev cX12_defaults : ByteArray := prog_14_method_36_code
def yX12_defaults : MethodName := ⟨RX12, "defaults", "(I)V"⟩
abbrev cX12_newNode : ByteArray := prog_14_method_37_code
def yX12_newNode : MethodName := ⟨RX12, "newNode", "(II)I"⟩
abbrev cX12_element : ByteArray := prog_14_method_38_code
def yX12_element : MethodName := ⟨RX12, "element", "()V"⟩
abbrev cX12_attributesOf : ByteArray := prog_14_method_39_code
def yX12_attributesOf : MethodName := ⟨RX12, "attributesOf", "(I)I"⟩
abbrev cX12_hasAttribute : ByteArray := prog_14_method_40_code
def yX12_hasAttribute : MethodName := ⟨RX12, "hasAttribute", "(III)Z"⟩
abbrev cX12_attribute : ByteArray := prog_14_method_41_code
def yX12_attribute : MethodName := ⟨RX12, "attribute", "(I)V"⟩
abbrev cX12_defaultsOf : ByteArray := prog_14_method_42_code
def yX12_defaultsOf : MethodName := ⟨RX12, "defaultsOf", "(II)V"⟩
abbrev cX12_text : ByteArray := prog_14_method_43_code
def yX12_text : MethodName := ⟨RX12, "text", "()V"⟩
abbrev cX12_close : ByteArray := prog_14_method_44_code
def yX12_close : MethodName := ⟨RX12, "close", "()V"⟩
abbrev cX12_content : ByteArray := prog_14_method_45_code
def yX12_content : MethodName := ⟨RX12, "content", "()V"⟩
abbrev cX12_read : ByteArray := prog_14_method_46_code
def yX12_read : MethodName := ⟨RX12, "read", "(I)I"⟩
abbrev cX12_begin : ByteArray := prog_14_method_47_code
def yX12_begin : MethodName := ⟨RX12, "begin", "(I)V"⟩
abbrev cX12_tellFinding : ByteArray := prog_14_method_48_code
def yX12_tellFinding : MethodName := ⟨RX12, "tellFinding", "(II)V"⟩
abbrev cX12_declOf : ByteArray := prog_14_method_49_code
def yX12_declOf : MethodName := ⟨RX12, "declOf", "(II)I"⟩
abbrev cX12_areAlike : ByteArray := prog_14_method_50_code
def yX12_areAlike : MethodName := ⟨RX12, "areAlike", "(III)Z"⟩
abbrev cX12_isDoubled : ByteArray := prog_14_method_51_code
def yX12_isDoubled : MethodName := ⟨RX12, "isDoubled", "(IJ)Z"⟩
abbrev cX12_judgeDecl : ByteArray := prog_14_method_52_code
def yX12_judgeDecl : MethodName := ⟨RX12, "judgeDecl", "(I)V"⟩
abbrev cX12_isName : ByteArray := prog_14_method_53_code
def yX12_isName : MethodName := ⟨RX12, "isName", "(II)Z"⟩
abbrev cX12_isOf : ByteArray := prog_14_method_54_code
def yX12_isOf : MethodName := ⟨RX12, "isOf", "(III)Z"⟩
abbrev cX12_judgeRule : ByteArray := prog_14_method_55_code
def yX12_judgeRule : MethodName := ⟨RX12, "judgeRule", "(I)V"⟩
abbrev cX12_judge : ByteArray := prog_14_method_56_code
def yX12_judge : MethodName := ⟨RX12, "judge", "()V"⟩
abbrev cX12_ruleFor : ByteArray := prog_14_method_57_code
def yX12_ruleFor : MethodName := ⟨RX12, "ruleFor", "(II)I"⟩
abbrev cX12_areSameKept : ByteArray := prog_14_method_58_code
def yX12_areSameKept : MethodName := ⟨RX12, "areSameKept", "(IIII)Z"⟩
abbrev cX12_isTaken : ByteArray := prog_14_method_59_code
def yX12_isTaken : MethodName := ⟨RX12, "isTaken", "(I)Z"⟩
abbrev cX12_judgeElement : ByteArray := prog_14_method_60_code
def yX12_judgeElement : MethodName := ⟨RX12, "judgeElement", "(I)V"⟩
abbrev cX12_named : ByteArray := prog_14_method_61_code
def yX12_named : MethodName := ⟨RX12, "named", "(IJI)J"⟩
abbrev cX12_fits : ByteArray := prog_14_method_62_code
def yX12_fits : MethodName := ⟨RX12, "fits", "(II)Z"⟩
abbrev cX12_quoted : ByteArray := prog_14_method_63_code
def yX12_quoted : MethodName := ⟨RX12, "quoted", "(I)V"⟩
abbrev cX12_filter : ByteArray := prog_14_method_64_code
def yX12_filter : MethodName := ⟨RX12, "filter", "(I)V"⟩
abbrev cX12_step : ByteArray := prog_14_method_65_code
def yX12_step : MethodName := ⟨RX12, "step", "(Z)V"⟩
abbrev cX12_path : ByteArray := prog_14_method_66_code
def yX12_path : MethodName := ⟨RX12, "path", "()V"⟩
abbrev cX12_isCalled : ByteArray := prog_14_method_67_code
def yX12_isCalled : MethodName := ⟨RX12, "isCalled", "(III)Z"⟩
abbrev cX12_leads : ByteArray := prog_14_method_68_code
def yX12_leads : MethodName := ⟨RX12, "leads", "(III)Z"⟩
abbrev cX12_hasString : ByteArray := prog_14_method_69_code
def yX12_hasString : MethodName := ⟨RX12, "hasString", "(III)Z"⟩
abbrev cX12_passesFilter : ByteArray := prog_14_method_70_code
def yX12_passesFilter : MethodName := ⟨RX12, "passesFilter", "(II)Z"⟩
abbrev cX12_filterMine : ByteArray := prog_14_method_71_code
def yX12_filterMine : MethodName := ⟨RX12, "filterMine", "(I)V"⟩
abbrev cX12_isWithin : ByteArray := prog_14_method_72_code
def yX12_isWithin : MethodName := ⟨RX12, "isWithin", "(II)Z"⟩
abbrev cX12_goStep : ByteArray := prog_14_method_73_code
def yX12_goStep : MethodName := ⟨RX12, "goStep", "(I)V"⟩
abbrev cX12_select : ByteArray := prog_14_method_74_code
def yX12_select : MethodName := ⟨RX12, "select", "(II)I"⟩
abbrev cX12_told : ByteArray := prog_14_method_75_code
def yX12_told : MethodName := ⟨RX12, "told", "(I)I"⟩
abbrev cX12_toLine : ByteArray := prog_14_method_76_code
def yX12_toLine : MethodName := ⟨RX12, "toLine", "(II)V"⟩
abbrev cX12_endLine : ByteArray := prog_14_method_77_code
def yX12_endLine : MethodName := ⟨RX12, "endLine", "()V"⟩
abbrev cX12_endWord : ByteArray := prog_14_method_78_code
def yX12_endWord : MethodName := ⟨RX12, "endWord", "()V"⟩
abbrev cX12_isBlock : ByteArray := prog_14_method_79_code
def yX12_isBlock : MethodName := ⟨RX12, "isBlock", "(I)Z"⟩
abbrev cX12_isKept : ByteArray := prog_14_method_80_code
def yX12_isKept : MethodName := ⟨RX12, "isKept", "(I)Z"⟩
abbrev cX12_leave : ByteArray := prog_14_method_81_code
def yX12_leave : MethodName := ⟨RX12, "leave", "(II)I"⟩
abbrev cX12_set : ByteArray := prog_14_method_82_code
def yX12_set : MethodName := ⟨RX12, "set", "(II)I"⟩
abbrev cX12_beginElement : ByteArray := prog_14_method_83_code
def yX12_beginElement : MethodName := ⟨RX12, "beginElement", "(I)V"⟩
abbrev cX12_setText : ByteArray := prog_14_method_84_code
def yX12_setText : MethodName := ⟨RX12, "setText", "(I)V"⟩
abbrev cX12_toPages : ByteArray := prog_14_method_85_code
def yX12_toPages : MethodName := ⟨RX12, "toPages", "(I)V"⟩
abbrev cX12_feed : ByteArray := prog_14_method_86_code
def yX12_feed : MethodName := ⟨RX12, "feed", "(IIIII)I"⟩
abbrev cX12_place : ByteArray := prog_14_method_87_code
def yX12_place : MethodName := ⟨RX12, "place", "()I"⟩
abbrev cX12_isNode : ByteArray := prog_14_method_88_code
def yX12_isNode : MethodName := ⟨RX12, "isNode", "(I)Z"⟩
abbrev cX12_stringOf : ByteArray := prog_14_method_89_code
def yX12_stringOf : MethodName := ⟨RX12, "stringOf", "(I)I"⟩
abbrev cX12_stringAt : ByteArray := prog_14_method_90_code
def yX12_stringAt : MethodName := ⟨RX12, "stringAt", "(II)I"⟩
abbrev cX12_node : ByteArray := prog_14_method_91_code
def yX12_node : MethodName := ⟨RX12, "node", "(II)I"⟩
abbrev cX12_name : ByteArray := prog_14_method_92_code
def yX12_name : MethodName := ⟨RX12, "name", "(II)I"⟩
abbrev cX12_string : ByteArray := prog_14_method_93_code
def yX12_string : MethodName := ⟨RX12, "string", "(II)I"⟩
abbrev cX12_findings : ByteArray := prog_14_method_94_code
def yX12_findings : MethodName := ⟨RX12, "findings", "()I"⟩
abbrev cX12_finding : ByteArray := prog_14_method_95_code
def yX12_finding : MethodName := ⟨RX12, "finding", "(II)I"⟩
abbrev cX12_line : ByteArray := prog_14_method_96_code
def yX12_line : MethodName := ⟨RX12, "line", "(II)I"⟩
abbrev cX12_at : ByteArray := prog_14_method_97_code
def yX12_at : MethodName := ⟨RX12, "at", "(II)I"⟩
abbrev cX12_count : ByteArray := prog_14_method_98_code
def yX12_count : MethodName := ⟨RX12, "count", "(I)I"⟩
def RJ9 : String := "java/lang/Math"
def TJ9 : u_T := fun k => match k with
  | _ => ("", "", "", false)
def tyJ9 : Nat → FieldType := fun k => match k with
  | _ => .int
abbrev wsJ90 : List Cond := u_ws RJ9 TJ9 0
theorem nmJ9 : ∀ a, a < 0 → ∀ b, b < 0 → a ≠ b → (TJ9 a).2.1 ≠ (TJ9 b).2.1 := by decide +kernel
theorem tyJ9_ok : ∀ k, k < 0 → parseFieldDescriptor (TJ9 k).2.2.1 = some (tyJ9 k) := by decide +kernel
abbrev cJ9_max_7cf53 : ByteArray := prog_15_method_65_code
def yJ9_max_7cf53 : MethodName := ⟨RJ9, "max", "(II)I"⟩
abbrev cJ9_min_7cf53 : ByteArray := prog_15_method_69_code
def yJ9_min_7cf53 : MethodName := ⟨RJ9, "min", "(II)I"⟩
def RJ0 : String := "java/lang/String"
def TJ0 : u_T := fun k => match k with
  | _ => ("", "", "", false)
def tyJ0 : Nat → FieldType := fun k => match k with
  | _ => .int
abbrev wsJ00 : List Cond := u_ws RJ0 TJ0 0
theorem nmJ0 : ∀ a, a < 0 → ∀ b, b < 0 → a ≠ b → (TJ0 a).2.1 ≠ (TJ0 b).2.1 := by decide +kernel
theorem tyJ0_ok : ∀ k, k < 0 → parseFieldDescriptor (TJ0 k).2.2.1 = some (tyJ0 k) := by decide +kernel
abbrev cJ0_length_8abf5 : ByteArray := prog_16_method_54_code
def yJ0_length_8abf5 : MethodName := ⟨RJ0, "length", "()I"⟩
abbrev cJ0_charAt_5068e : ByteArray := prog_16_method_56_code
def yJ0_charAt_5068e : MethodName := ⟨RJ0, "charAt", "(I)C"⟩
abbrev cJ0_coder_7d493 : ByteArray := prog_16_method_152_code
def yJ0_coder_7d493 : MethodName := ⟨RJ0, "coder", "()B"⟩
abbrev cJ0_isLatin1_aae02 : ByteArray := prog_16_method_154_code
def yJ0_isLatin1_aae02 : MethodName := ⟨RJ0, "isLatin1", "()Z"⟩
abbrev cJ0_checkIndex_df160 : ByteArray := prog_16_method_155_code
def yJ0_checkIndex_df160 : MethodName := ⟨RJ0, "checkIndex", "(II)V"⟩
def RJ1 : String := "java/lang/StringLatin1"
def TJ1 : u_T := fun k => match k with
  | _ => ("", "", "", false)
def tyJ1 : Nat → FieldType := fun k => match k with
  | _ => .int
abbrev wsJ10 : List Cond := u_ws RJ1 TJ1 0
theorem nmJ1 : ∀ a, a < 0 → ∀ b, b < 0 → a ≠ b → (TJ1 a).2.1 ≠ (TJ1 b).2.1 := by decide +kernel
theorem tyJ1_ok : ∀ k, k < 0 → parseFieldDescriptor (TJ1 k).2.2.1 = some (tyJ1 k) := by decide +kernel
abbrev cJ1_charAt_3b067 : ByteArray := prog_17_method_2_code
def yJ1_charAt_3b067 : MethodName := ⟨RJ1, "charAt", "([BI)C"⟩
def RJ2 : String := "java/lang/StringUTF16"
def TJ2 : u_T := fun k => match k with
  | _ => ("", "", "", false)
def tyJ2 : Nat → FieldType := fun k => match k with
  | _ => .int
abbrev wsJ20 : List Cond := u_ws RJ2 TJ2 0
theorem nmJ2 : ∀ a, a < 0 → ∀ b, b < 0 → a ≠ b → (TJ2 a).2.1 ≠ (TJ2 b).2.1 := by decide +kernel
theorem tyJ2_ok : ∀ k, k < 0 → parseFieldDescriptor (TJ2 k).2.2.1 = some (tyJ2 k) := by decide +kernel
abbrev cJ2_getChar_3b067 : ByteArray := prog_18_method_5_code
def yJ2_getChar_3b067 : MethodName := ⟨RJ2, "getChar", "([BI)C"⟩
abbrev cJ2_length_9d52b : ByteArray := prog_18_method_6_code
def yJ2_length_9d52b : MethodName := ⟨RJ2, "length", "([B)I"⟩
abbrev cJ2_charAt_3b067 : ByteArray := prog_18_method_83_code
def yJ2_charAt_3b067 : MethodName := ⟨RJ2, "charAt", "([BI)C"⟩
abbrev cJ2_checkIndex_2214a : ByteArray := prog_18_method_91_code
def yJ2_checkIndex_2214a : MethodName := ⟨RJ2, "checkIndex", "(I[B)V"⟩
def RJ10 : String := "java/lang/System"
def TJ10 : u_T := fun k => match k with
  | _ => ("", "", "", false)
def tyJ10 : Nat → FieldType := fun k => match k with
  | _ => .int
abbrev wsJ100 : List Cond := u_ws RJ10 TJ10 0
theorem nmJ10 : ∀ a, a < 0 → ∀ b, b < 0 → a ≠ b → (TJ10 a).2.1 ≠ (TJ10 b).2.1 := by decide +kernel
theorem tyJ10_ok : ∀ k, k < 0 → parseFieldDescriptor (TJ10 k).2.2.1 = some (tyJ10 k) := by decide +kernel
def RJ7 : String := "java/util/Arrays"
def TJ7 : u_T := fun k => match k with
  | _ => ("", "", "", false)
def tyJ7 : Nat → FieldType := fun k => match k with
  | _ => .int
abbrev wsJ70 : List Cond := u_ws RJ7 TJ7 0
theorem nmJ7 : ∀ a, a < 0 → ∀ b, b < 0 → a ≠ b → (TJ7 a).2.1 ≠ (TJ7 b).2.1 := by decide +kernel
theorem tyJ7_ok : ∀ k, k < 0 → parseFieldDescriptor (TJ7 k).2.2.1 = some (tyJ7 k) := by decide +kernel
abbrev cJ7_fill_53178 : ByteArray := prog_20_method_103_code
def yJ7_fill_53178 : MethodName := ⟨RJ7, "fill", "([II)V"⟩
abbrev cJ7_fill_031fb : ByteArray := prog_20_method_109_code
def yJ7_fill_031fb : MethodName := ⟨RJ7, "fill", "([BB)V"⟩
def RJ3 : String := "jdk/internal/util/Preconditions"
def TJ3 : u_T := fun k => match k with
  | _ => ("", "", "", false)
def tyJ3 : Nat → FieldType := fun k => match k with
  | _ => .int
abbrev wsJ30 : List Cond := u_ws RJ3 TJ3 0
theorem nmJ3 : ∀ a, a < 0 → ∀ b, b < 0 → a ≠ b → (TJ3 a).2.1 ≠ (TJ3 b).2.1 := by decide +kernel
theorem tyJ3_ok : ∀ k, k < 0 → parseFieldDescriptor (TJ3 k).2.2.1 = some (tyJ3 k) := by decide +kernel
abbrev cJ3_checkIndex_8e157 : ByteArray := prog_21_method_11_code
def yJ3_checkIndex_8e157 : MethodName := ⟨RJ3, "checkIndex", "(IILjava/util/function/BiFunction;)I"⟩
def RL : String := "TreePressLaw"
abbrev cL_law : ByteArray := code
def yL_law : MethodName := ⟨RL, "law", "([I)Z"⟩
abbrev vwCl : List vw_C := [(RX0, TX0, 18), (RX1, TX1, 7), (RX2, TX2, 10), (RX3, TX3, 19), (RX4, TX4, 4), (RX5, TX5, 8), (RX6, TX6, 11), (RX7, TX7, 13), (RX8, TX8, 6), (RX9, TX9, 11), (RX10, TX10, 3), (RX11, TX11, 12), (RX12, TX12, 102)]
theorem vv_in {big : List Cond} (ws : List Cond) (ps : List Nat) (hp : ws = ps.filterMap (fun i => big[i]?)) : ∀ w ∈ ws, w ∈ big := by
  intro w hw
  rw [hp] at hw
  obtain ⟨i, -, hi⟩ := List.mem_filterMap.mp hw
  exact List.mem_of_getElem? hi
theorem viX0 : ∀ w ∈ u_ws RX0 TX0 18, w ∈ lw_tbl := vv_in _ [394, 396, 398, 400, 402, 404, 406, 408, 410, 412, 414, 416, 418, 420, 422, 424, 426, 428] (by decide +kernel)
theorem viX1 : ∀ w ∈ u_ws RX1 TX1 7, w ∈ lw_tbl := vv_in _ [196, 198, 200, 202, 204, 206, 208] (by decide +kernel)
theorem viX2 : ∀ w ∈ u_ws RX2 TX2 10, w ∈ lw_tbl := vv_in _ [228, 230, 232, 234, 236, 238, 240, 242, 244, 246] (by decide +kernel)
theorem viX3 : ∀ w ∈ u_ws RX3 TX3 19, w ∈ lw_tbl := vv_in _ [670, 672, 674, 676, 678, 680, 682, 684, 686, 688, 690, 692, 694, 696, 698, 700, 702, 704, 706] (by decide +kernel)
theorem viX4 : ∀ w ∈ u_ws RX4 TX4 4, w ∈ lw_tbl := vv_in _ [278, 280, 282, 284] (by decide +kernel)
theorem viX5 : ∀ w ∈ u_ws RX5 TX5 8, w ∈ lw_tbl := vv_in _ [457, 459, 461, 463, 465, 467, 469, 471] (by decide +kernel)
theorem viX6 : ∀ w ∈ u_ws RX6 TX6 11, w ∈ lw_tbl := vv_in _ [314, 316, 318, 320, 322, 324, 326, 328, 330, 332, 334] (by decide +kernel)
theorem viX7 : ∀ w ∈ u_ws RX7 TX7 13, w ∈ lw_tbl := vv_in _ [570, 572, 574, 576, 578, 580, 582, 584, 586, 588, 590, 592, 594] (by decide +kernel)
theorem viX8 : ∀ w ∈ u_ws RX8 TX8 6, w ∈ lw_tbl := vv_in _ [351, 353, 355, 357, 359, 361] (by decide +kernel)
theorem viX9 : ∀ w ∈ u_ws RX9 TX9 11, w ∈ lw_tbl := vv_in _ [506, 508, 510, 512, 514, 516, 518, 520, 522, 524, 526] (by decide +kernel)
theorem viX10 : ∀ w ∈ u_ws RX10 TX10 3, w ∈ lw_tbl := vv_in _ [260, 262, 264] (by decide +kernel)
theorem viX11 : ∀ w ∈ u_ws RX11 TX11 12, w ∈ lw_tbl := vv_in _ [721, 723, 725, 727, 729, 731, 733, 735, 737, 739, 741, 743] (by decide +kernel)
theorem viX12 : ∀ w ∈ u_ws RX12 TX12 102, w ∈ lw_tbl := vv_in _ [1592, 1594, 1596, 1598, 1600, 1602, 1604, 1606, 1608, 1610, 1612, 1614, 1616, 1618, 1620, 1622, 1624, 1626, 1628, 1630, 1632, 1634, 1636, 1638, 1640, 1642, 1644, 1646, 1648, 1650, 1652, 1654, 1656, 1658, 1660, 1662, 1664, 1666, 1668, 1670, 1672, 1674, 1676, 1678, 1680, 1682, 1684, 1686, 1688, 1690, 1692, 1694, 1696, 1698, 1700, 1702, 1704, 1706, 1708, 1710, 1712, 1714, 1716, 1718, 1720, 1722, 1724, 1726, 1728, 1730, 1732, 1734, 1736, 1738, 1740, 1742, 1744, 1746, 1748, 1750, 1752, 1754, 1756, 1758, 1760, 1762, 1764, 1766, 1768, 1770, 1772, 1774, 1776, 1778, 1780, 1782, 1784, 1786, 1788, 1790, 1792, 1794] (by decide +kernel)
