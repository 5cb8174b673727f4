section
-- ===== PART A: goes FIRST, ahead of the names: the tables' words, and 'selects' of the private methods out of them =====
/-- a private method of a class that the tables say can be made, by its rows of tables_1 -/
def lw_okq (q : MethodName × Nat) : Prop := (q.1.cls ≠ "java/lang/invoke/MethodHandle" ∧ q.1.cls ≠ "java/lang/invoke/VarHandle") ∧ Cond.instantiable q.1.cls q.2 ∈ tables_1 ∧ Cond.privateMethod q.1 ∈ tables_1 ∧ Cond.instanceMethod q.1 ∈ tables_1
theorem lw_p0 : lw_okq (⟨"RoofCourses$Text", "readItem", "(LRoofCourses$Plan;)Z"⟩, 4) := ⟨⟨by decide +kernel, by decide +kernel⟩, List.mem_of_getElem? (i := 26) (by decide +kernel), List.mem_of_getElem? (i := 316) (by decide +kernel), List.mem_of_getElem? (i := 317) (by decide +kernel)⟩
theorem lw_p1 : lw_okq (⟨"RoofCourses$Text", "letterHere", "()C"⟩, 4) := ⟨⟨by decide +kernel, by decide +kernel⟩, List.mem_of_getElem? (i := 26) (by decide +kernel), List.mem_of_getElem? (i := 320) (by decide +kernel), List.mem_of_getElem? (i := 321) (by decide +kernel)⟩
theorem lw_p2 : lw_okq (⟨"RoofCourses$Text", "readNumber", "()I"⟩, 4) := ⟨⟨by decide +kernel, by decide +kernel⟩, List.mem_of_getElem? (i := 26) (by decide +kernel), List.mem_of_getElem? (i := 327) (by decide +kernel), List.mem_of_getElem? (i := 328) (by decide +kernel)⟩
theorem lw_p3 : lw_okq (⟨"RoofCourses$Plan", "takeSlates", "(III)Z"⟩, 9) := ⟨⟨by decide +kernel, by decide +kernel⟩, List.mem_of_getElem? (i := 48) (by decide +kernel), List.mem_of_getElem? (i := 341) (by decide +kernel), List.mem_of_getElem? (i := 342) (by decide +kernel)⟩
theorem lw_p4 : lw_okq (⟨"RoofCourses$Plan", "placeFor", "(II)I"⟩, 9) := ⟨⟨by decide +kernel, by decide +kernel⟩, List.mem_of_getElem? (i := 48) (by decide +kernel), List.mem_of_getElem? (i := 348) (by decide +kernel), List.mem_of_getElem? (i := 349) (by decide +kernel)⟩
theorem lw_p5 : lw_okq (⟨"RoofCourses$Plan", "insertHeap", "(IIII)Z"⟩, 9) := ⟨⟨by decide +kernel, by decide +kernel⟩, List.mem_of_getElem? (i := 48) (by decide +kernel), List.mem_of_getElem? (i := 352) (by decide +kernel), List.mem_of_getElem? (i := 353) (by decide +kernel)⟩
theorem lw_p6 : lw_okq (⟨"RoofCourses$Plan", "takeRoof", "(II)Z"⟩, 9) := ⟨⟨by decide +kernel, by decide +kernel⟩, List.mem_of_getElem? (i := 48) (by decide +kernel), List.mem_of_getElem? (i := 356) (by decide +kernel), List.mem_of_getElem? (i := 357) (by decide +kernel)⟩
theorem lw_p7 : lw_okq (⟨"RoofCourses$Plan", "takeLap", "(II)Z"⟩, 9) := ⟨⟨by decide +kernel, by decide +kernel⟩, List.mem_of_getElem? (i := 48) (by decide +kernel), List.mem_of_getElem? (i := 360) (by decide +kernel), List.mem_of_getElem? (i := 361) (by decide +kernel)⟩
theorem lw_p8 : lw_okq (⟨"RoofCourses$Plan", "takeHip", "(I)Z"⟩, 9) := ⟨⟨by decide +kernel, by decide +kernel⟩, List.mem_of_getElem? (i := 48) (by decide +kernel), List.mem_of_getElem? (i := 364) (by decide +kernel), List.mem_of_getElem? (i := 365) (by decide +kernel)⟩
theorem lw_p9 : lw_okq (⟨"RoofCourses", "fillTrial", "(I)Z"⟩, 8) := ⟨⟨by decide +kernel, by decide +kernel⟩, List.mem_of_getElem? (i := 18) (by decide +kernel), List.mem_of_getElem? (i := 435) (by decide +kernel), List.mem_of_getElem? (i := 436) (by decide +kernel)⟩
theorem lw_p10 : lw_okq (⟨"RoofCourses$Layer", "endingAt", "(ILRoofCourses$Course;)I"⟩, 2) := ⟨⟨by decide +kernel, by decide +kernel⟩, List.mem_of_getElem? (i := 98) (by decide +kernel), List.mem_of_getElem? (i := 479) (by decide +kernel), List.mem_of_getElem? (i := 480) (by decide +kernel)⟩
theorem lw_p11 : lw_okq (⟨"RoofCourses$Layer", "serves", "(ILRoofCourses$Course;)Z"⟩, 2) := ⟨⟨by decide +kernel, by decide +kernel⟩, List.mem_of_getElem? (i := 98) (by decide +kernel), List.mem_of_getElem? (i := 483) (by decide +kernel), List.mem_of_getElem? (i := 484) (by decide +kernel)⟩
theorem lw_p12 : lw_okq (⟨"RoofCourses$Layer", "putWithJoint", "(LRoofCourses$Course;ILRoofCourses$Course;)Z"⟩, 2) := ⟨⟨by decide +kernel, by decide +kernel⟩, List.mem_of_getElem? (i := 98) (by decide +kernel), List.mem_of_getElem? (i := 492) (by decide +kernel), List.mem_of_getElem? (i := 493) (by decide +kernel)⟩
theorem lw_p13 : lw_okq (⟨"RoofCourses$Layer", "brokenAt", "(ILRoofCourses$Course;LRoofCourses$Course;)I"⟩, 2) := ⟨⟨by decide +kernel, by decide +kernel⟩, List.mem_of_getElem? (i := 98) (by decide +kernel), List.mem_of_getElem? (i := 496) (by decide +kernel), List.mem_of_getElem? (i := 497) (by decide +kernel)⟩
theorem lw_p14 : lw_okq (⟨"RoofCourses$Layer", "broadestFor", "(LRoofCourses$Course;)I"⟩, 2) := ⟨⟨by decide +kernel, by decide +kernel⟩, List.mem_of_getElem? (i := 98) (by decide +kernel), List.mem_of_getElem? (i := 512) (by decide +kernel), List.mem_of_getElem? (i := 513) (by decide +kernel)⟩
theorem lw_p15 : lw_okq (⟨"RoofCourses$Layer", "cutAt", "(IILRoofCourses$Course;)I"⟩, 2) := ⟨⟨by decide +kernel, by decide +kernel⟩, List.mem_of_getElem? (i := 98) (by decide +kernel), List.mem_of_getElem? (i := 516) (by decide +kernel), List.mem_of_getElem? (i := 517) (by decide +kernel)⟩
def lw_privs_1 : List (MethodName × Nat) := [(⟨"RoofCourses$Text", "readItem", "(LRoofCourses$Plan;)Z"⟩, 4), (⟨"RoofCourses$Text", "letterHere", "()C"⟩, 4), (⟨"RoofCourses$Text", "readNumber", "()I"⟩, 4), (⟨"RoofCourses$Plan", "takeSlates", "(III)Z"⟩, 9), (⟨"RoofCourses$Plan", "placeFor", "(II)I"⟩, 9), (⟨"RoofCourses$Plan", "insertHeap", "(IIII)Z"⟩, 9), (⟨"RoofCourses$Plan", "takeRoof", "(II)Z"⟩, 9), (⟨"RoofCourses$Plan", "takeLap", "(II)Z"⟩, 9), (⟨"RoofCourses$Plan", "takeHip", "(I)Z"⟩, 9), (⟨"RoofCourses", "fillTrial", "(I)Z"⟩, 8), (⟨"RoofCourses$Layer", "endingAt", "(ILRoofCourses$Course;)I"⟩, 2), (⟨"RoofCourses$Layer", "serves", "(ILRoofCourses$Course;)Z"⟩, 2), (⟨"RoofCourses$Layer", "putWithJoint", "(LRoofCourses$Course;ILRoofCourses$Course;)Z"⟩, 2), (⟨"RoofCourses$Layer", "brokenAt", "(ILRoofCourses$Course;LRoofCourses$Course;)I"⟩, 2), (⟨"RoofCourses$Layer", "broadestFor", "(LRoofCourses$Course;)I"⟩, 2), (⟨"RoofCourses$Layer", "cutAt", "(IILRoofCourses$Course;)I"⟩, 2)]
theorem lw_r1 : ∀ q ∈ lw_privs_1, lw_okq q := List.forall_mem_cons.mpr ⟨lw_p0, List.forall_mem_cons.mpr ⟨lw_p1, List.forall_mem_cons.mpr ⟨lw_p2, List.forall_mem_cons.mpr ⟨lw_p3, List.forall_mem_cons.mpr ⟨lw_p4, List.forall_mem_cons.mpr ⟨lw_p5, List.forall_mem_cons.mpr ⟨lw_p6, List.forall_mem_cons.mpr ⟨lw_p7, List.forall_mem_cons.mpr ⟨lw_p8, List.forall_mem_cons.mpr ⟨lw_p9, List.forall_mem_cons.mpr ⟨lw_p10, List.forall_mem_cons.mpr ⟨lw_p11, List.forall_mem_cons.mpr ⟨lw_p12, List.forall_mem_cons.mpr ⟨lw_p13, List.forall_mem_cons.mpr ⟨lw_p14, List.forall_mem_cons.mpr ⟨lw_p15, fun _ h => absurd h List.not_mem_nil⟩⟩⟩⟩⟩⟩⟩⟩⟩⟩⟩⟩⟩⟩⟩⟩
theorem lw_p16 : lw_okq (⟨"RoofCourses", "isHeap", "(I)Z"⟩, 8) := ⟨⟨by decide +kernel, by decide +kernel⟩, List.mem_of_getElem? (i := 18) (by decide +kernel), List.mem_of_getElem? (i := 562) (by decide +kernel), List.mem_of_getElem? (i := 563) (by decide +kernel)⟩
theorem lw_p17 : lw_okq (⟨"RoofCourses", "isCourse", "(I)Z"⟩, 8) := ⟨⟨by decide +kernel, by decide +kernel⟩, List.mem_of_getElem? (i := 18) (by decide +kernel), List.mem_of_getElem? (i := 592) (by decide +kernel), List.mem_of_getElem? (i := 593) (by decide +kernel)⟩
theorem lw_p18 : lw_okq (⟨"RoofCoursesModel", "beginRead", "()V"⟩, 18) := ⟨⟨by decide +kernel, by decide +kernel⟩, List.mem_of_getElem? (i := 650) (by decide +kernel), List.mem_of_getElem? (i := 656) (by decide +kernel), List.mem_of_getElem? (i := 657) (by decide +kernel)⟩
theorem lw_p19 : lw_okq (⟨"RoofCoursesModel", "addHeap", "(III)Z"⟩, 18) := ⟨⟨by decide +kernel, by decide +kernel⟩, List.mem_of_getElem? (i := 650) (by decide +kernel), List.mem_of_getElem? (i := 660) (by decide +kernel), List.mem_of_getElem? (i := 661) (by decide +kernel)⟩
theorem lw_p20 : lw_okq (⟨"RoofCoursesModel", "takeRead", "()V"⟩, 18) := ⟨⟨by decide +kernel, by decide +kernel⟩, List.mem_of_getElem? (i := 650) (by decide +kernel), List.mem_of_getElem? (i := 664) (by decide +kernel), List.mem_of_getElem? (i := 665) (by decide +kernel)⟩
theorem lw_p21 : lw_okq (⟨"RoofCoursesModel", "parse", "()I"⟩, 18) := ⟨⟨by decide +kernel, by decide +kernel⟩, List.mem_of_getElem? (i := 650) (by decide +kernel), List.mem_of_getElem? (i := 738) (by decide +kernel), List.mem_of_getElem? (i := 739) (by decide +kernel)⟩
theorem lw_p22 : lw_okq (⟨"RoofCoursesModel", "readItem", "(I)Z"⟩, 18) := ⟨⟨by decide +kernel, by decide +kernel⟩, List.mem_of_getElem? (i := 650) (by decide +kernel), List.mem_of_getElem? (i := 742) (by decide +kernel), List.mem_of_getElem? (i := 743) (by decide +kernel)⟩
theorem lw_p23 : lw_okq (⟨"RoofCoursesModel", "readNumbers", "(I)Z"⟩, 18) := ⟨⟨by decide +kernel, by decide +kernel⟩, List.mem_of_getElem? (i := 650) (by decide +kernel), List.mem_of_getElem? (i := 746) (by decide +kernel), List.mem_of_getElem? (i := 747) (by decide +kernel)⟩
theorem lw_p24 : lw_okq (⟨"RoofCoursesModel", "isDigit", "()Z"⟩, 18) := ⟨⟨by decide +kernel, by decide +kernel⟩, List.mem_of_getElem? (i := 650) (by decide +kernel), List.mem_of_getElem? (i := 750) (by decide +kernel), List.mem_of_getElem? (i := 751) (by decide +kernel)⟩
theorem lw_p25 : lw_okq (⟨"RoofCoursesModel", "isNumber", "(III)Z"⟩, 18) := ⟨⟨by decide +kernel, by decide +kernel⟩, List.mem_of_getElem? (i := 650) (by decide +kernel), List.mem_of_getElem? (i := 754) (by decide +kernel), List.mem_of_getElem? (i := 755) (by decide +kernel)⟩
theorem lw_p26 : lw_okq (⟨"RoofCoursesModel", "setRead", "(IIZ)V"⟩, 18) := ⟨⟨by decide +kernel, by decide +kernel⟩, List.mem_of_getElem? (i := 650) (by decide +kernel), List.mem_of_getElem? (i := 758) (by decide +kernel), List.mem_of_getElem? (i := 759) (by decide +kernel)⟩
theorem lw_p27 : lw_okq (⟨"RoofCoursesModel", "canLay", "(I)Z"⟩, 18) := ⟨⟨by decide +kernel, by decide +kernel⟩, List.mem_of_getElem? (i := 650) (by decide +kernel), List.mem_of_getElem? (i := 770) (by decide +kernel), List.mem_of_getElem? (i := 771) (by decide +kernel)⟩
theorem lw_p28 : lw_okq (⟨"RoofCoursesModel", "layCourse", "(I)Z"⟩, 18) := ⟨⟨by decide +kernel, by decide +kernel⟩, List.mem_of_getElem? (i := 650) (by decide +kernel), List.mem_of_getElem? (i := 774) (by decide +kernel), List.mem_of_getElem? (i := 775) (by decide +kernel)⟩
theorem lw_p29 : lw_okq (⟨"RoofCoursesModel", "mayBegin", "(I)Z"⟩, 18) := ⟨⟨by decide +kernel, by decide +kernel⟩, List.mem_of_getElem? (i := 650) (by decide +kernel), List.mem_of_getElem? (i := 778) (by decide +kernel), List.mem_of_getElem? (i := 779) (by decide +kernel)⟩
theorem lw_p30 : lw_okq (⟨"RoofCoursesModel", "heapLength", "(I)I"⟩, 18) := ⟨⟨by decide +kernel, by decide +kernel⟩, List.mem_of_getElem? (i := 650) (by decide +kernel), List.mem_of_getElem? (i := 782) (by decide +kernel), List.mem_of_getElem? (i := 783) (by decide +kernel)⟩
theorem lw_p31 : lw_okq (⟨"RoofCoursesModel", "isReady", "()Z"⟩, 18) := ⟨⟨by decide +kernel, by decide +kernel⟩, List.mem_of_getElem? (i := 650) (by decide +kernel), List.mem_of_getElem? (i := 786) (by decide +kernel), List.mem_of_getElem? (i := 787) (by decide +kernel)⟩
def lw_privs_2 : List (MethodName × Nat) := [(⟨"RoofCourses", "isHeap", "(I)Z"⟩, 8), (⟨"RoofCourses", "isCourse", "(I)Z"⟩, 8), (⟨"RoofCoursesModel", "beginRead", "()V"⟩, 18), (⟨"RoofCoursesModel", "addHeap", "(III)Z"⟩, 18), (⟨"RoofCoursesModel", "takeRead", "()V"⟩, 18), (⟨"RoofCoursesModel", "parse", "()I"⟩, 18), (⟨"RoofCoursesModel", "readItem", "(I)Z"⟩, 18), (⟨"RoofCoursesModel", "readNumbers", "(I)Z"⟩, 18), (⟨"RoofCoursesModel", "isDigit", "()Z"⟩, 18), (⟨"RoofCoursesModel", "isNumber", "(III)Z"⟩, 18), (⟨"RoofCoursesModel", "setRead", "(IIZ)V"⟩, 18), (⟨"RoofCoursesModel", "canLay", "(I)Z"⟩, 18), (⟨"RoofCoursesModel", "layCourse", "(I)Z"⟩, 18), (⟨"RoofCoursesModel", "mayBegin", "(I)Z"⟩, 18), (⟨"RoofCoursesModel", "heapLength", "(I)I"⟩, 18), (⟨"RoofCoursesModel", "isReady", "()Z"⟩, 18)]
theorem lw_r2 : ∀ q ∈ lw_privs_2, lw_okq q := List.forall_mem_cons.mpr ⟨lw_p16, List.forall_mem_cons.mpr ⟨lw_p17, List.forall_mem_cons.mpr ⟨lw_p18, List.forall_mem_cons.mpr ⟨lw_p19, List.forall_mem_cons.mpr ⟨lw_p20, List.forall_mem_cons.mpr ⟨lw_p21, List.forall_mem_cons.mpr ⟨lw_p22, List.forall_mem_cons.mpr ⟨lw_p23, List.forall_mem_cons.mpr ⟨lw_p24, List.forall_mem_cons.mpr ⟨lw_p25, List.forall_mem_cons.mpr ⟨lw_p26, List.forall_mem_cons.mpr ⟨lw_p27, List.forall_mem_cons.mpr ⟨lw_p28, List.forall_mem_cons.mpr ⟨lw_p29, List.forall_mem_cons.mpr ⟨lw_p30, List.forall_mem_cons.mpr ⟨lw_p31, fun _ h => absurd h List.not_mem_nil⟩⟩⟩⟩⟩⟩⟩⟩⟩⟩⟩⟩⟩⟩⟩⟩
theorem lw_p32 : lw_okq (⟨"RoofCoursesModel", "foot", "(I)I"⟩, 18) := ⟨⟨by decide +kernel, by decide +kernel⟩, List.mem_of_getElem? (i := 650) (by decide +kernel), List.mem_of_getElem? (i := 790) (by decide +kernel), List.mem_of_getElem? (i := 791) (by decide +kernel)⟩
theorem lw_p33 : lw_okq (⟨"RoofCoursesModel", "courseLength", "(I)I"⟩, 18) := ⟨⟨by decide +kernel, by decide +kernel⟩, List.mem_of_getElem? (i := 650) (by decide +kernel), List.mem_of_getElem? (i := 794) (by decide +kernel), List.mem_of_getElem? (i := 795) (by decide +kernel)⟩
theorem lw_p34 : lw_okq (⟨"RoofCoursesModel", "gauge", "(I)I"⟩, 18) := ⟨⟨by decide +kernel, by decide +kernel⟩, List.mem_of_getElem? (i := 650) (by decide +kernel), List.mem_of_getElem? (i := 798) (by decide +kernel), List.mem_of_getElem? (i := 799) (by decide +kernel)⟩
theorem lw_p35 : lw_okq (⟨"RoofCoursesModel", "fill", "(I)Z"⟩, 18) := ⟨⟨by decide +kernel, by decide +kernel⟩, List.mem_of_getElem? (i := 650) (by decide +kernel), List.mem_of_getElem? (i := 802) (by decide +kernel), List.mem_of_getElem? (i := 803) (by decide +kernel)⟩
theorem lw_p36 : lw_okq (⟨"RoofCoursesModel", "room", "(I)I"⟩, 18) := ⟨⟨by decide +kernel, by decide +kernel⟩, List.mem_of_getElem? (i := 650) (by decide +kernel), List.mem_of_getElem? (i := 806) (by decide +kernel), List.mem_of_getElem? (i := 807) (by decide +kernel)⟩
theorem lw_p37 : lw_okq (⟨"RoofCoursesModel", "findJoints", "(I)V"⟩, 18) := ⟨⟨by decide +kernel, by decide +kernel⟩, List.mem_of_getElem? (i := 650) (by decide +kernel), List.mem_of_getElem? (i := 810) (by decide +kernel), List.mem_of_getElem? (i := 811) (by decide +kernel)⟩
theorem lw_p38 : lw_okq (⟨"RoofCoursesModel", "slateCount", "(I)I"⟩, 18) := ⟨⟨by decide +kernel, by decide +kernel⟩, List.mem_of_getElem? (i := 650) (by decide +kernel), List.mem_of_getElem? (i := 814) (by decide +kernel), List.mem_of_getElem? (i := 815) (by decide +kernel)⟩
theorem lw_p39 : lw_okq (⟨"RoofCoursesModel", "slateOf", "(II)I"⟩, 18) := ⟨⟨by decide +kernel, by decide +kernel⟩, List.mem_of_getElem? (i := 650) (by decide +kernel), List.mem_of_getElem? (i := 818) (by decide +kernel), List.mem_of_getElem? (i := 819) (by decide +kernel)⟩
theorem lw_p40 : lw_okq (⟨"RoofCoursesModel", "choose", "(III)Z"⟩, 18) := ⟨⟨by decide +kernel, by decide +kernel⟩, List.mem_of_getElem? (i := 650) (by decide +kernel), List.mem_of_getElem? (i := 822) (by decide +kernel), List.mem_of_getElem? (i := 823) (by decide +kernel)⟩
theorem lw_p41 : lw_okq (⟨"RoofCoursesModel", "breadth", "(I)I"⟩, 18) := ⟨⟨by decide +kernel, by decide +kernel⟩, List.mem_of_getElem? (i := 650) (by decide +kernel), List.mem_of_getElem? (i := 826) (by decide +kernel), List.mem_of_getElem? (i := 827) (by decide +kernel)⟩
theorem lw_p42 : lw_okq (⟨"RoofCoursesModel", "isBroken", "(I)Z"⟩, 18) := ⟨⟨by decide +kernel, by decide +kernel⟩, List.mem_of_getElem? (i := 650) (by decide +kernel), List.mem_of_getElem? (i := 830) (by decide +kernel), List.mem_of_getElem? (i := 831) (by decide +kernel)⟩
theorem lw_p43 : lw_okq (⟨"RoofCoursesModel", "giveBack", "(I)V"⟩, 18) := ⟨⟨by decide +kernel, by decide +kernel⟩, List.mem_of_getElem? (i := 650) (by decide +kernel), List.mem_of_getElem? (i := 834) (by decide +kernel), List.mem_of_getElem? (i := 835) (by decide +kernel)⟩
theorem lw_p44 : lw_okq (⟨"RoofCoursesModel", "takeUp", "()V"⟩, 18) := ⟨⟨by decide +kernel, by decide +kernel⟩, List.mem_of_getElem? (i := 650) (by decide +kernel), List.mem_of_getElem? (i := 838) (by decide +kernel), List.mem_of_getElem? (i := 839) (by decide +kernel)⟩
theorem lw_p45 : lw_okq (⟨"RoofCoursesModel", "save", "()V"⟩, 18) := ⟨⟨by decide +kernel, by decide +kernel⟩, List.mem_of_getElem? (i := 650) (by decide +kernel), List.mem_of_getElem? (i := 842) (by decide +kernel), List.mem_of_getElem? (i := 843) (by decide +kernel)⟩
theorem lw_p46 : lw_okq (⟨"RoofCoursesModel", "isHeap", "(I)Z"⟩, 18) := ⟨⟨by decide +kernel, by decide +kernel⟩, List.mem_of_getElem? (i := 650) (by decide +kernel), List.mem_of_getElem? (i := 857) (by decide +kernel), List.mem_of_getElem? (i := 858) (by decide +kernel)⟩
theorem lw_p47 : lw_okq (⟨"RoofCoursesModel", "laidOf", "(I)I"⟩, 18) := ⟨⟨by decide +kernel, by decide +kernel⟩, List.mem_of_getElem? (i := 650) (by decide +kernel), List.mem_of_getElem? (i := 869) (by decide +kernel), List.mem_of_getElem? (i := 870) (by decide +kernel)⟩
def lw_privs_3 : List (MethodName × Nat) := [(⟨"RoofCoursesModel", "foot", "(I)I"⟩, 18), (⟨"RoofCoursesModel", "courseLength", "(I)I"⟩, 18), (⟨"RoofCoursesModel", "gauge", "(I)I"⟩, 18), (⟨"RoofCoursesModel", "fill", "(I)Z"⟩, 18), (⟨"RoofCoursesModel", "room", "(I)I"⟩, 18), (⟨"RoofCoursesModel", "findJoints", "(I)V"⟩, 18), (⟨"RoofCoursesModel", "slateCount", "(I)I"⟩, 18), (⟨"RoofCoursesModel", "slateOf", "(II)I"⟩, 18), (⟨"RoofCoursesModel", "choose", "(III)Z"⟩, 18), (⟨"RoofCoursesModel", "breadth", "(I)I"⟩, 18), (⟨"RoofCoursesModel", "isBroken", "(I)Z"⟩, 18), (⟨"RoofCoursesModel", "giveBack", "(I)V"⟩, 18), (⟨"RoofCoursesModel", "takeUp", "()V"⟩, 18), (⟨"RoofCoursesModel", "save", "()V"⟩, 18), (⟨"RoofCoursesModel", "isHeap", "(I)Z"⟩, 18), (⟨"RoofCoursesModel", "laidOf", "(I)I"⟩, 18)]
theorem lw_r3 : ∀ q ∈ lw_privs_3, lw_okq q := List.forall_mem_cons.mpr ⟨lw_p32, List.forall_mem_cons.mpr ⟨lw_p33, List.forall_mem_cons.mpr ⟨lw_p34, List.forall_mem_cons.mpr ⟨lw_p35, List.forall_mem_cons.mpr ⟨lw_p36, List.forall_mem_cons.mpr ⟨lw_p37, List.forall_mem_cons.mpr ⟨lw_p38, List.forall_mem_cons.mpr ⟨lw_p39, List.forall_mem_cons.mpr ⟨lw_p40, List.forall_mem_cons.mpr ⟨lw_p41, List.forall_mem_cons.mpr ⟨lw_p42, List.forall_mem_cons.mpr ⟨lw_p43, List.forall_mem_cons.mpr ⟨lw_p44, List.forall_mem_cons.mpr ⟨lw_p45, List.forall_mem_cons.mpr ⟨lw_p46, List.forall_mem_cons.mpr ⟨lw_p47, fun _ h => absurd h List.not_mem_nil⟩⟩⟩⟩⟩⟩⟩⟩⟩⟩⟩⟩⟩⟩⟩⟩
theorem lw_p48 : lw_okq (⟨"RoofCoursesModel", "isCourse", "(I)Z"⟩, 18) := ⟨⟨by decide +kernel, by decide +kernel⟩, List.mem_of_getElem? (i := 650) (by decide +kernel), List.mem_of_getElem? (i := 877) (by decide +kernel), List.mem_of_getElem? (i := 878) (by decide +kernel)⟩
theorem lw_p49 : lw_okq (⟨"RoofCoursesModel", "waste", "(I)I"⟩, 18) := ⟨⟨by decide +kernel, by decide +kernel⟩, List.mem_of_getElem? (i := 650) (by decide +kernel), List.mem_of_getElem? (i := 881) (by decide +kernel), List.mem_of_getElem? (i := 882) (by decide +kernel)⟩
theorem lw_p50 : lw_okq (⟨"RoofCoursesModel", "lapHeld", "(I)I"⟩, 18) := ⟨⟨by decide +kernel, by decide +kernel⟩, List.mem_of_getElem? (i := 650) (by decide +kernel), List.mem_of_getElem? (i := 885) (by decide +kernel), List.mem_of_getElem? (i := 886) (by decide +kernel)⟩
theorem lw_p51 : lw_okq (⟨"RoofCoursesModel", "cutCount", "(I)I"⟩, 18) := ⟨⟨by decide +kernel, by decide +kernel⟩, List.mem_of_getElem? (i := 650) (by decide +kernel), List.mem_of_getElem? (i := 889) (by decide +kernel), List.mem_of_getElem? (i := 890) (by decide +kernel)⟩
theorem lw_p52 : lw_okq (⟨"RoofCoursesModel", "nextLength", "(I)I"⟩, 18) := ⟨⟨by decide +kernel, by decide +kernel⟩, List.mem_of_getElem? (i := 650) (by decide +kernel), List.mem_of_getElem? (i := 909) (by decide +kernel), List.mem_of_getElem? (i := 910) (by decide +kernel)⟩
theorem lw_p53 : lw_okq (⟨"RoofCoursesModel", "sumOf", "(I)I"⟩, 18) := ⟨⟨by decide +kernel, by decide +kernel⟩, List.mem_of_getElem? (i := 650) (by decide +kernel), List.mem_of_getElem? (i := 921) (by decide +kernel), List.mem_of_getElem? (i := 922) (by decide +kernel)⟩
def lw_privs_4 : List (MethodName × Nat) := [(⟨"RoofCoursesModel", "isCourse", "(I)Z"⟩, 18), (⟨"RoofCoursesModel", "waste", "(I)I"⟩, 18), (⟨"RoofCoursesModel", "lapHeld", "(I)I"⟩, 18), (⟨"RoofCoursesModel", "cutCount", "(I)I"⟩, 18), (⟨"RoofCoursesModel", "nextLength", "(I)I"⟩, 18), (⟨"RoofCoursesModel", "sumOf", "(I)I"⟩, 18)]
theorem lw_r4 : ∀ q ∈ lw_privs_4, lw_okq q := List.forall_mem_cons.mpr ⟨lw_p48, List.forall_mem_cons.mpr ⟨lw_p49, List.forall_mem_cons.mpr ⟨lw_p50, List.forall_mem_cons.mpr ⟨lw_p51, List.forall_mem_cons.mpr ⟨lw_p52, List.forall_mem_cons.mpr ⟨lw_p53, fun _ h => absurd h List.not_mem_nil⟩⟩⟩⟩⟩⟩
def lw_privs : List (MethodName × Nat) := lw_privs_1 ++ (lw_privs_2 ++ (lw_privs_3 ++ (lw_privs_4)))
def lw_tbl : List Cond := k2_sels lw_privs ++ tables_1
theorem lw_privs_ok : ∀ q ∈ lw_privs, lw_okq q := by
  show ∀ q ∈ lw_privs_1 ++ (lw_privs_2 ++ (lw_privs_3 ++ (lw_privs_4))), lw_okq q
  exact List.forall_mem_append.mpr ⟨lw_r1, List.forall_mem_append.mpr ⟨lw_r2, List.forall_mem_append.mpr ⟨lw_r3, lw_r4⟩⟩⟩
end
section
/-! ===== BEGIN words of one list among another's, by their places ===== -/
theorem goodIn_r {big : List Cond} (ws : List Cond) (ps : List Nat) (hp : ws = ps.filterMap (fun i => big[i]?)) (h : ws.all goodWord = true) : GoodIn big ws := by
  intro w hw
  have h1 := List.all_eq_true.mp h w hw
  rw [hp] at hw
  obtain ⟨i, -, hi⟩ := List.mem_filterMap.mp hw
  have hm : w ∈ big := by first | exact List.mem_of_getElem? hi | exact List.getElem?_mem hi
  exact ⟨hm, good_of_word h1⟩
theorem goodIn_app {big a b : List Cond} (ha : GoodIn big a) (hb : GoodIn big b) : GoodIn big (a ++ b) := fun w h => (List.mem_append.mp h).elim (ha w) (hb w)
theorem goodIn_ca {big a b : List Cond} {c : Cond} (ha : GoodIn big (c :: a)) (hb : GoodIn big b) : GoodIn big (c :: (a ++ b)) := fun w h => (List.mem_cons.mp h).elim (fun e => ha w (List.mem_cons.mpr (Or.inl e))) (fun h => (List.mem_append.mp h).elim (fun h => ha w (List.mem_cons.mpr (Or.inr h))) (hb w))
theorem goodIn_sub {big ws : List Cond} (hm : ∀ w ∈ ws, w ∈ big) (h : ws.all goodWord = true) : GoodIn big ws := fun w hw => ⟨hm w hw, good_of_word (List.all_eq_true.mp h w hw)⟩
/-! ===== END ===== -/

/-! ===== BEGIN printed: names, fields, word lists, decode rows ===== -/
def RX0 : String := "RoofCourses$Ahead"
def TX0 : u_T := fun k => match k with
  | 0 => ("RoofCourses$Ahead", "plan", "LRoofCourses$Plan;", true)
  | 1 => ("RoofCourses$Ahead", "layer", "LRoofCourses$Layer;", true)
  | 2 => ("RoofCourses$Ahead", "roof", "LRoofCourses$Roof;", true)
  | 3 => ("RoofCourses$Ahead", "left", "[I", true)
  | 4 => ("RoofCourses$Ahead", "probe", "LRoofCourses$Course;", true)
  | 5 => ("RoofCourses$Ahead", "even", "LRoofCourses$Course;", true)
  | 6 => ("RoofCourses$Ahead", "odd", "LRoofCourses$Course;", true)
  | 7 => ("RoofCourses$Ahead", "more", "I", false)
  | 8 => ("RoofCourses$Ahead", "waste", "I", false)
  | _ => ("RoofCourses$Ahead", "ready", "Z", false)
def tyX0 : Nat → FieldType := fun k => match k with
  | 0 => .object "RoofCourses$Plan"
  | 1 => .object "RoofCourses$Layer"
  | 2 => .object "RoofCourses$Roof"
  | 3 => .array .int
  | 4 => .object "RoofCourses$Course"
  | 5 => .object "RoofCourses$Course"
  | 6 => .object "RoofCourses$Course"
  | 7 => .int
  | 8 => .int
  | _ => .boolean
abbrev wsX00 : List Cond := u_ws RX0 TX0 10
theorem nmX0 : ∀ a, a < 10 → ∀ b, b < 10 → a ≠ b → (TX0 a).2.1 ≠ (TX0 b).2.1 := by decide +kernel
theorem tyX0_ok : ∀ k, k < 10 → parseFieldDescriptor (TX0 k).2.2.1 = some (tyX0 k) := by decide +kernel
abbrev cX0_init : ByteArray := prog_2_method_1_code
def yX0_init : MethodName := ⟨RX0, "<init>", "(LRoofCourses$Plan;LRoofCourses$Layer;LRoofCourses$Roof;)V"⟩
abbrev cX0_choose : ByteArray := prog_2_method_2_code
def yX0_choose : MethodName := ⟨RX0, "choose", "(I[ILRoofCourses$Course;)I"⟩
abbrev cX0_go : ByteArray := prog_2_method_3_code
def yX0_go : MethodName := ⟨RX0, "go", "(I)V"⟩
def RX1 : String := "RoofCourses$Change"
def TX1 : u_T := fun k => match k with
  | 0 => ("RoofCourses$Change", "kind", "I", true)
  | 1 => ("RoofCourses$Change", "course", "LRoofCourses$Course;", true)
  | 2 => ("RoofCourses$Change", "heapNumber", "I", true)
  | _ => ("RoofCourses$Change", "slates", "I", true)
def tyX1 : Nat → FieldType := fun k => match k with
  | 0 => .int
  | 1 => .object "RoofCourses$Course"
  | 2 => .int
  | _ => .int
abbrev wsX10 : List Cond := u_ws RX1 TX1 4
theorem nmX1 : ∀ a, a < 4 → ∀ b, b < 4 → a ≠ b → (TX1 a).2.1 ≠ (TX1 b).2.1 := by decide +kernel
theorem tyX1_ok : ∀ k, k < 4 → parseFieldDescriptor (TX1 k).2.2.1 = some (tyX1 k) := by decide +kernel
abbrev cX1_init : ByteArray := prog_3_method_1_code
def yX1_init : MethodName := ⟨RX1, "<init>", "(ILRoofCourses$Course;II)V"⟩
abbrev cX1_undoOn : ByteArray := prog_3_method_2_code
def yX1_undoOn : MethodName := ⟨RX1, "undoOn", "(LRoofCourses$Roof;)V"⟩
def RX2 : String := "RoofCourses$Changes"
def TX2 : u_T := fun k => match k with
  | 0 => ("RoofCourses$Changes", "kept", "[LRoofCourses$Change;", true)
  | _ => ("RoofCourses$Changes", "size", "I", false)
def tyX2 : Nat → FieldType := fun k => match k with
  | 0 => .array (.object "RoofCourses$Change")
  | _ => .int
abbrev wsX20 : List Cond := u_ws RX2 TX2 2
theorem nmX2 : ∀ a, a < 2 → ∀ b, b < 2 → a ≠ b → (TX2 a).2.1 ≠ (TX2 b).2.1 := by decide +kernel
theorem tyX2_ok : ∀ k, k < 2 → parseFieldDescriptor (TX2 k).2.2.1 = some (tyX2 k) := by decide +kernel
abbrev cX2_init : ByteArray := prog_4_method_1_code
def yX2_init : MethodName := ⟨RX2, "<init>", "()V"⟩
abbrev cX2_clear : ByteArray := prog_4_method_2_code
def yX2_clear : MethodName := ⟨RX2, "clear", "()V"⟩
abbrev cX2_add : ByteArray := prog_4_method_3_code
def yX2_add : MethodName := ⟨RX2, "add", "(LRoofCourses$Change;)V"⟩
abbrev cX2_takeLatest : ByteArray := prog_4_method_4_code
def yX2_takeLatest : MethodName := ⟨RX2, "takeLatest", "()LRoofCourses$Change;"⟩
def RX3 : String := "RoofCourses$Course"
def TX3 : u_T := fun k => match k with
  | 0 => ("RoofCourses$Course", "heapOf", "[I", true)
  | 1 => ("RoofCourses$Course", "edge", "[I", true)
  | 2 => ("RoofCourses$Course", "length", "I", false)
  | 3 => ("RoofCourses$Course", "foot", "I", false)
  | 4 => ("RoofCourses$Course", "gauge", "I", false)
  | 5 => ("RoofCourses$Course", "room", "I", false)
  | 6 => ("RoofCourses$Course", "size", "I", false)
  | 7 => ("RoofCourses$Course", "waste", "I", false)
  | _ => ("RoofCourses$Course", "cut", "I", false)
def tyX3 : Nat → FieldType := fun k => match k with
  | 0 => .array .int
  | 1 => .array .int
  | 2 => .int
  | 3 => .int
  | 4 => .int
  | 5 => .int
  | 6 => .int
  | 7 => .int
  | _ => .int
abbrev wsX30 : List Cond := u_ws RX3 TX3 9
theorem nmX3 : ∀ a, a < 9 → ∀ b, b < 9 → a ≠ b → (TX3 a).2.1 ≠ (TX3 b).2.1 := by decide +kernel
theorem tyX3_ok : ∀ k, k < 9 → parseFieldDescriptor (TX3 k).2.2.1 = some (tyX3 k) := by decide +kernel
abbrev cX3_init : ByteArray := prog_5_method_1_code
def yX3_init : MethodName := ⟨RX3, "<init>", "()V"⟩
abbrev cX3_begin : ByteArray := prog_5_method_2_code
def yX3_begin : MethodName := ⟨RX3, "begin", "(IIII)V"⟩
abbrev cX3_put : ByteArray := prog_5_method_3_code
def yX3_put : MethodName := ⟨RX3, "put", "(III)V"⟩
abbrev cX3_startOf : ByteArray := prog_5_method_4_code
def yX3_startOf : MethodName := ⟨RX3, "startOf", "(I)I"⟩
abbrev cX3_head : ByteArray := prog_5_method_5_code
def yX3_head : MethodName := ⟨RX3, "head", "()I"⟩
abbrev cX3_joints : ByteArray := prog_5_method_6_code
def yX3_joints : MethodName := ⟨RX3, "joints", "()I"⟩
abbrev cX3_isBrokenAt : ByteArray := prog_5_method_7_code
def yX3_isBrokenAt : MethodName := ⟨RX3, "isBrokenAt", "(II)Z"⟩
def RX4 : String := "RoofCourses$Layer"
def TX4 : u_T := fun k => match k with
  | 0 => ("RoofCourses$Layer", "plan", "LRoofCourses$Plan;", true)
  | _ => ("RoofCourses$Layer", "rest", "[I", true)
def tyX4 : Nat → FieldType := fun k => match k with
  | 0 => .object "RoofCourses$Plan"
  | _ => .array .int
abbrev wsX40 : List Cond := u_ws RX4 TX4 2
theorem nmX4 : ∀ a, a < 2 → ∀ b, b < 2 → a ≠ b → (TX4 a).2.1 ≠ (TX4 b).2.1 := by decide +kernel
theorem tyX4_ok : ∀ k, k < 2 → parseFieldDescriptor (TX4 k).2.2.1 = some (tyX4 k) := by decide +kernel
abbrev cX4_init : ByteArray := prog_6_method_1_code
def yX4_init : MethodName := ⟨RX4, "<init>", "(LRoofCourses$Plan;)V"⟩
abbrev cX4_fill : ByteArray := prog_6_method_2_code
def yX4_fill : MethodName := ⟨RX4, "fill", "(LRoofCourses$Course;I[ILRoofCourses$Course;)Z"⟩
abbrev cX4_putWithJoint : ByteArray := prog_6_method_3_code
def yX4_putWithJoint : MethodName := ⟨RX4, "putWithJoint", "(LRoofCourses$Course;ILRoofCourses$Course;)Z"⟩
abbrev cX4_serves : ByteArray := prog_6_method_4_code
def yX4_serves : MethodName := ⟨RX4, "serves", "(ILRoofCourses$Course;)Z"⟩
abbrev cX4_endingAt : ByteArray := prog_6_method_5_code
def yX4_endingAt : MethodName := ⟨RX4, "endingAt", "(ILRoofCourses$Course;)I"⟩
abbrev cX4_brokenAt : ByteArray := prog_6_method_6_code
def yX4_brokenAt : MethodName := ⟨RX4, "brokenAt", "(ILRoofCourses$Course;LRoofCourses$Course;)I"⟩
abbrev cX4_broadestFor : ByteArray := prog_6_method_7_code
def yX4_broadestFor : MethodName := ⟨RX4, "broadestFor", "(LRoofCourses$Course;)I"⟩
abbrev cX4_cutAt : ByteArray := prog_6_method_8_code
def yX4_cutAt : MethodName := ⟨RX4, "cutAt", "(IILRoofCourses$Course;)I"⟩
def RX5 : String := "RoofCourses$Plan"
def TX5 : u_T := fun k => match k with
  | 0 => ("RoofCourses$Plan", "length", "[I", true)
  | 1 => ("RoofCourses$Plan", "breadth", "[I", true)
  | 2 => ("RoofCourses$Plan", "slates", "[I", true)
  | 3 => ("RoofCourses$Plan", "heaps", "I", false)
  | 4 => ("RoofCourses$Plan", "high", "I", false)
  | 5 => ("RoofCourses$Plan", "wide", "I", false)
  | 6 => ("RoofCourses$Plan", "lap", "I", false)
  | 7 => ("RoofCourses$Plan", "breaking", "I", false)
  | _ => ("RoofCourses$Plan", "hip", "I", false)
def tyX5 : Nat → FieldType := fun k => match k with
  | 0 => .array .int
  | 1 => .array .int
  | 2 => .array .int
  | 3 => .int
  | 4 => .int
  | 5 => .int
  | 6 => .int
  | 7 => .int
  | _ => .int
abbrev wsX50 : List Cond := u_ws RX5 TX5 9
theorem nmX5 : ∀ a, a < 9 → ∀ b, b < 9 → a ≠ b → (TX5 a).2.1 ≠ (TX5 b).2.1 := by decide +kernel
theorem tyX5_ok : ∀ k, k < 9 → parseFieldDescriptor (TX5 k).2.2.1 = some (tyX5 k) := by decide +kernel
abbrev cX5_init : ByteArray := prog_7_method_1_code
def yX5_init : MethodName := ⟨RX5, "<init>", "()V"⟩
abbrev cX5_clear : ByteArray := prog_7_method_2_code
def yX5_clear : MethodName := ⟨RX5, "clear", "()V"⟩
abbrev cX5_copy : ByteArray := prog_7_method_3_code
def yX5_copy : MethodName := ⟨RX5, "copy", "(LRoofCourses$Plan;)V"⟩
abbrev cX5_take : ByteArray := prog_7_method_4_code
def yX5_take : MethodName := ⟨RX5, "take", "(CIII)Z"⟩
abbrev cX5_takeRoof : ByteArray := prog_7_method_5_code
def yX5_takeRoof : MethodName := ⟨RX5, "takeRoof", "(II)Z"⟩
abbrev cX5_takeLap : ByteArray := prog_7_method_6_code
def yX5_takeLap : MethodName := ⟨RX5, "takeLap", "(II)Z"⟩
abbrev cX5_takeHip : ByteArray := prog_7_method_7_code
def yX5_takeHip : MethodName := ⟨RX5, "takeHip", "(I)Z"⟩
abbrev cX5_takeSlates : ByteArray := prog_7_method_8_code
def yX5_takeSlates : MethodName := ⟨RX5, "takeSlates", "(III)Z"⟩
abbrev cX5_placeFor : ByteArray := prog_7_method_9_code
def yX5_placeFor : MethodName := ⟨RX5, "placeFor", "(II)I"⟩
abbrev cX5_insertHeap : ByteArray := prog_7_method_10_code
def yX5_insertHeap : MethodName := ⟨RX5, "insertHeap", "(IIII)Z"⟩
abbrev cX5_gaugeOf : ByteArray := prog_7_method_11_code
def yX5_gaugeOf : MethodName := ⟨RX5, "gaugeOf", "(I)I"⟩
abbrev cX5_roomAt : ByteArray := prog_7_method_12_code
def yX5_roomAt : MethodName := ⟨RX5, "roomAt", "(I)I"⟩
abbrev cX5_isReadyBy : ByteArray := prog_7_method_13_code
def yX5_isReadyBy : MethodName := ⟨RX5, "isReadyBy", "(LRoofCourses$Course;)Z"⟩
def RX6 : String := "RoofCourses$Roof"
def TX6 : u_T := fun k => match k with
  | 0 => ("RoofCourses$Roof", "plan", "LRoofCourses$Plan;", true)
  | 1 => ("RoofCourses$Roof", "left", "[I", true)
  | 2 => ("RoofCourses$Roof", "courses", "[LRoofCourses$Course;", true)
  | 3 => ("RoofCourses$Roof", "ground", "LRoofCourses$Course;", true)
  | _ => ("RoofCourses$Roof", "size", "I", false)
def tyX6 : Nat → FieldType := fun k => match k with
  | 0 => .object "RoofCourses$Plan"
  | 1 => .array .int
  | 2 => .array (.object "RoofCourses$Course")
  | 3 => .object "RoofCourses$Course"
  | _ => .int
abbrev wsX60 : List Cond := u_ws RX6 TX6 5
theorem nmX6 : ∀ a, a < 5 → ∀ b, b < 5 → a ≠ b → (TX6 a).2.1 ≠ (TX6 b).2.1 := by decide +kernel
theorem tyX6_ok : ∀ k, k < 5 → parseFieldDescriptor (TX6 k).2.2.1 = some (tyX6 k) := by decide +kernel
abbrev cX6_init : ByteArray := prog_8_method_1_code
def yX6_init : MethodName := ⟨RX6, "<init>", "(LRoofCourses$Plan;)V"⟩
abbrev cX6_begin : ByteArray := prog_8_method_2_code
def yX6_begin : MethodName := ⟨RX6, "begin", "()V"⟩
abbrev cX6_last : ByteArray := prog_8_method_3_code
def yX6_last : MethodName := ⟨RX6, "last", "()LRoofCourses$Course;"⟩
abbrev cX6_isOpen : ByteArray := prog_8_method_4_code
def yX6_isOpen : MethodName := ⟨RX6, "isOpen", "()Z"⟩
abbrev cX6_push : ByteArray := prog_8_method_5_code
def yX6_push : MethodName := ⟨RX6, "push", "(LRoofCourses$Course;)V"⟩
abbrev cX6_pop : ByteArray := prog_8_method_6_code
def yX6_pop : MethodName := ⟨RX6, "pop", "()LRoofCourses$Course;"⟩
abbrev cX6_addSlates : ByteArray := prog_8_method_7_code
def yX6_addSlates : MethodName := ⟨RX6, "addSlates", "([ILRoofCourses$Course;I)V"⟩
abbrev cX6_laidOf : ByteArray := prog_8_method_8_code
def yX6_laidOf : MethodName := ⟨RX6, "laidOf", "(I)I"⟩
abbrev cX6_lapHeldBy : ByteArray := prog_8_method_9_code
def yX6_lapHeldBy : MethodName := ⟨RX6, "lapHeldBy", "(I)I"⟩
abbrev cX6_waste : ByteArray := prog_8_method_10_code
def yX6_waste : MethodName := ⟨RX6, "waste", "()I"⟩
abbrev cX6_slatesLeft : ByteArray := prog_8_method_11_code
def yX6_slatesLeft : MethodName := ⟨RX6, "slatesLeft", "()I"⟩
def RX7 : String := "RoofCourses$Text"
def TX7 : u_T := fun k => match k with
  | 0 => ("RoofCourses$Text", "letters", "[C", true)
  | 1 => ("RoofCourses$Text", "numbers", "[I", true)
  | 2 => ("RoofCourses$Text", "size", "I", false)
  | _ => ("RoofCourses$Text", "at", "I", false)
def tyX7 : Nat → FieldType := fun k => match k with
  | 0 => .array .char
  | 1 => .array .int
  | 2 => .int
  | _ => .int
abbrev wsX70 : List Cond := u_ws RX7 TX7 4
theorem nmX7 : ∀ a, a < 4 → ∀ b, b < 4 → a ≠ b → (TX7 a).2.1 ≠ (TX7 b).2.1 := by decide +kernel
theorem tyX7_ok : ∀ k, k < 4 → parseFieldDescriptor (TX7 k).2.2.1 = some (tyX7 k) := by decide +kernel
abbrev cX7_init : ByteArray := prog_9_method_1_code
def yX7_init : MethodName := ⟨RX7, "<init>", "()V"⟩
abbrev cX7_append : ByteArray := prog_9_method_2_code
def yX7_append : MethodName := ⟨RX7, "append", "(C)Z"⟩
abbrev cX7_clear : ByteArray := prog_9_method_3_code
def yX7_clear : MethodName := ⟨RX7, "clear", "()V"⟩
abbrev cX7_readInto : ByteArray := prog_9_method_4_code
def yX7_readInto : MethodName := ⟨RX7, "readInto", "(LRoofCourses$Plan;)I"⟩
abbrev cX7_readItem : ByteArray := prog_9_method_5_code
def yX7_readItem : MethodName := ⟨RX7, "readItem", "(LRoofCourses$Plan;)Z"⟩
abbrev cX7_numbersOf : ByteArray := prog_9_method_6_code
def yX7_numbersOf : MethodName := ⟨RX7, "numbersOf", "(C)I"⟩
abbrev cX7_readNumber : ByteArray := prog_9_method_7_code
def yX7_readNumber : MethodName := ⟨RX7, "readNumber", "()I"⟩
abbrev cX7_isFigure : ByteArray := prog_9_method_8_code
def yX7_isFigure : MethodName := ⟨RX7, "isFigure", "(C)Z"⟩
abbrev cX7_letterHere : ByteArray := prog_9_method_9_code
def yX7_letterHere : MethodName := ⟨RX7, "letterHere", "()C"⟩
def RX8 : String := "RoofCourses"
def TX8 : u_T := fun k => match k with
  | 0 => ("RoofCourses", "text", "LRoofCourses$Text;", true)
  | 1 => ("RoofCourses", "plan", "LRoofCourses$Plan;", true)
  | 2 => ("RoofCourses", "read", "LRoofCourses$Plan;", true)
  | 3 => ("RoofCourses", "layer", "LRoofCourses$Layer;", true)
  | 4 => ("RoofCourses", "roof", "LRoofCourses$Roof;", true)
  | 5 => ("RoofCourses", "ahead", "LRoofCourses$Ahead;", true)
  | 6 => ("RoofCourses", "changes", "LRoofCourses$Changes;", true)
  | _ => ("RoofCourses", "trial", "LRoofCourses$Course;", false)
def tyX8 : Nat → FieldType := fun k => match k with
  | 0 => .object "RoofCourses$Text"
  | 1 => .object "RoofCourses$Plan"
  | 2 => .object "RoofCourses$Plan"
  | 3 => .object "RoofCourses$Layer"
  | 4 => .object "RoofCourses$Roof"
  | 5 => .object "RoofCourses$Ahead"
  | 6 => .object "RoofCourses$Changes"
  | _ => .object "RoofCourses$Course"
abbrev wsX80 : List Cond := u_ws RX8 TX8 8
theorem nmX8 : ∀ a, a < 8 → ∀ b, b < 8 → a ≠ b → (TX8 a).2.1 ≠ (TX8 b).2.1 := by decide +kernel
theorem tyX8_ok : ∀ k, k < 8 → parseFieldDescriptor (TX8 k).2.2.1 = some (tyX8 k) := by decide +kernel
abbrev cX8_init : ByteArray := prog_1_method_1_code
def yX8_init : MethodName := ⟨RX8, "<init>", "()V"⟩
abbrev cX8_write : ByteArray := prog_1_method_2_code
def yX8_write : MethodName := ⟨RX8, "write", "(I)I"⟩
abbrev cX8_wipe : ByteArray := prog_1_method_3_code
def yX8_wipe : MethodName := ⟨RX8, "wipe", "()I"⟩
abbrev cX8_fault : ByteArray := prog_1_method_4_code
def yX8_fault : MethodName := ⟨RX8, "fault", "()I"⟩
abbrev cX8_lay : ByteArray := prog_1_method_5_code
def yX8_lay : MethodName := ⟨RX8, "lay", "()I"⟩
abbrev cX8_course : ByteArray := prog_1_method_6_code
def yX8_course : MethodName := ⟨RX8, "course", "(I)I"⟩
abbrev cX8_up : ByteArray := prog_1_method_7_code
def yX8_up : MethodName := ⟨RX8, "up", "()I"⟩
abbrev cX8_bring : ByteArray := prog_1_method_8_code
def yX8_bring : MethodName := ⟨RX8, "bring", "(II)I"⟩
abbrev cX8_undo : ByteArray := prog_1_method_9_code
def yX8_undo : MethodName := ⟨RX8, "undo", "()I"⟩
abbrev cX8_heap : ByteArray := prog_1_method_10_code
def yX8_heap : MethodName := ⟨RX8, "heap", "(II)I"⟩
abbrev cX8_told : ByteArray := prog_1_method_11_code
def yX8_told : MethodName := ⟨RX8, "told", "(II)I"⟩
abbrev cX8_joint : ByteArray := prog_1_method_12_code
def yX8_joint : MethodName := ⟨RX8, "joint", "(II)I"⟩
abbrev cX8_slate : ByteArray := prog_1_method_13_code
def yX8_slate : MethodName := ⟨RX8, "slate", "(III)I"⟩
abbrev cX8_tried : ByteArray := prog_1_method_14_code
def yX8_tried : MethodName := ⟨RX8, "tried", "(II)I"⟩
abbrev cX8_next : ByteArray := prog_1_method_15_code
def yX8_next : MethodName := ⟨RX8, "next", "(I)I"⟩
abbrev cX8_itself : ByteArray := prog_1_method_16_code
def yX8_itself : MethodName := ⟨RX8, "itself", "(II)I"⟩
abbrev cX8_count : ByteArray := prog_1_method_17_code
def yX8_count : MethodName := ⟨RX8, "count", "(I)I"⟩
abbrev cX8_isHeap : ByteArray := prog_1_method_18_code
def yX8_isHeap : MethodName := ⟨RX8, "isHeap", "(I)Z"⟩
abbrev cX8_isCourse : ByteArray := prog_1_method_19_code
def yX8_isCourse : MethodName := ⟨RX8, "isCourse", "(I)Z"⟩
abbrev cX8_fillTrial : ByteArray := prog_1_method_20_code
def yX8_fillTrial : MethodName := ⟨RX8, "fillTrial", "(I)Z"⟩
abbrev cX8_isWithin : ByteArray := prog_1_method_21_code
def yX8_isWithin : MethodName := ⟨RX8, "isWithin", "(III)Z"⟩
def RX9 : String := "RoofCoursesModel"
def TX9 : u_T := fun k => match k with
  | 0 => ("RoofCoursesModel", "text", "[I", true)
  | 1 => ("RoofCoursesModel", "length", "I", false)
  | 2 => ("RoofCoursesModel", "at", "I", false)
  | 3 => ("RoofCoursesModel", "settings", "[I", true)
  | 4 => ("RoofCoursesModel", "readSettings", "[I", true)
  | 5 => ("RoofCoursesModel", "heaps", "[I", true)
  | 6 => ("RoofCoursesModel", "readHeaps", "[I", true)
  | 7 => ("RoofCoursesModel", "heapCount", "I", false)
  | 8 => ("RoofCoursesModel", "readCount", "I", false)
  | 9 => ("RoofCoursesModel", "now", "[I", true)
  | 10 => ("RoofCoursesModel", "saved", "[I", true)
  | 11 => ("RoofCoursesModel", "history", "[I", true)
  | 12 => ("RoofCoursesModel", "historySize", "I", false)
  | 13 => ("RoofCoursesModel", "numbers", "[I", true)
  | 14 => ("RoofCoursesModel", "joints", "[I", true)
  | 15 => ("RoofCoursesModel", "jointCount", "I", false)
  | 16 => ("RoofCoursesModel", "chosen", "I", false)
  | _ => ("RoofCoursesModel", "visible", "I", false)
def tyX9 : Nat → FieldType := fun k => match k with
  | 0 => .array .int
  | 1 => .int
  | 2 => .int
  | 3 => .array .int
  | 4 => .array .int
  | 5 => .array .int
  | 6 => .array .int
  | 7 => .int
  | 8 => .int
  | 9 => .array .int
  | 10 => .array .int
  | 11 => .array .int
  | 12 => .int
  | 13 => .array .int
  | 14 => .array .int
  | 15 => .int
  | 16 => .int
  | _ => .int
abbrev wsX90 : List Cond := u_ws RX9 TX9 18
theorem nmX9 : ∀ a, a < 18 → ∀ b, b < 18 → a ≠ b → (TX9 a).2.1 ≠ (TX9 b).2.1 := by decide +kernel
theorem tyX9_ok : ∀ k, k < 18 → parseFieldDescriptor (TX9 k).2.2.1 = some (tyX9 k) := by decide +kernel
abbrev cX9_init : ByteArray := prog_11_method_1_code
def yX9_init : MethodName := ⟨RX9, "<init>", "()V"⟩
abbrev cX9_in : ByteArray := prog_11_method_2_code
def yX9_in : MethodName := ⟨RX9, "in", "(III)Z"⟩
abbrev cX9_copyState : ByteArray := prog_11_method_3_code
def yX9_copyState : MethodName := ⟨RX9, "copyState", "([II[II)V"⟩
abbrev cX9_beginRead : ByteArray := prog_11_method_4_code
def yX9_beginRead : MethodName := ⟨RX9, "beginRead", "()V"⟩
abbrev cX9_addHeap : ByteArray := prog_11_method_5_code
def yX9_addHeap : MethodName := ⟨RX9, "addHeap", "(III)Z"⟩
abbrev cX9_takeRead : ByteArray := prog_11_method_6_code
def yX9_takeRead : MethodName := ⟨RX9, "takeRead", "()V"⟩
abbrev cX9_isDigit : ByteArray := prog_11_method_7_code
def yX9_isDigit : MethodName := ⟨RX9, "isDigit", "()Z"⟩
abbrev cX9_readNumbers : ByteArray := prog_11_method_8_code
def yX9_readNumbers : MethodName := ⟨RX9, "readNumbers", "(I)Z"⟩
abbrev cX9_isNumber : ByteArray := prog_11_method_9_code
def yX9_isNumber : MethodName := ⟨RX9, "isNumber", "(III)Z"⟩
abbrev cX9_setRead : ByteArray := prog_11_method_10_code
def yX9_setRead : MethodName := ⟨RX9, "setRead", "(IIZ)V"⟩
abbrev cX9_readItem : ByteArray := prog_11_method_11_code
def yX9_readItem : MethodName := ⟨RX9, "readItem", "(I)Z"⟩
abbrev cX9_parse : ByteArray := prog_11_method_12_code
def yX9_parse : MethodName := ⟨RX9, "parse", "()I"⟩
abbrev cX9_write : ByteArray := prog_11_method_13_code
def yX9_write : MethodName := ⟨RX9, "write", "(I)I"⟩
abbrev cX9_wipe : ByteArray := prog_11_method_14_code
def yX9_wipe : MethodName := ⟨RX9, "wipe", "()I"⟩
abbrev cX9_fault : ByteArray := prog_11_method_15_code
def yX9_fault : MethodName := ⟨RX9, "fault", "()I"⟩
abbrev cX9_lay : ByteArray := prog_11_method_16_code
def yX9_lay : MethodName := ⟨RX9, "lay", "()I"⟩
abbrev cX9_heapLength : ByteArray := prog_11_method_17_code
def yX9_heapLength : MethodName := ⟨RX9, "heapLength", "(I)I"⟩
abbrev cX9_breadth : ByteArray := prog_11_method_18_code
def yX9_breadth : MethodName := ⟨RX9, "breadth", "(I)I"⟩
abbrev cX9_courseLength : ByteArray := prog_11_method_19_code
def yX9_courseLength : MethodName := ⟨RX9, "courseLength", "(I)I"⟩
abbrev cX9_slateCount : ByteArray := prog_11_method_20_code
def yX9_slateCount : MethodName := ⟨RX9, "slateCount", "(I)I"⟩
abbrev cX9_slateOf : ByteArray := prog_11_method_21_code
def yX9_slateOf : MethodName := ⟨RX9, "slateOf", "(II)I"⟩
abbrev cX9_gauge : ByteArray := prog_11_method_22_code
def yX9_gauge : MethodName := ⟨RX9, "gauge", "(I)I"⟩
abbrev cX9_foot : ByteArray := prog_11_method_23_code
def yX9_foot : MethodName := ⟨RX9, "foot", "(I)I"⟩
abbrev cX9_room : ByteArray := prog_11_method_24_code
def yX9_room : MethodName := ⟨RX9, "room", "(I)I"⟩
abbrev cX9_isReady : ByteArray := prog_11_method_25_code
def yX9_isReady : MethodName := ⟨RX9, "isReady", "()Z"⟩
abbrev cX9_waste : ByteArray := prog_11_method_26_code
def yX9_waste : MethodName := ⟨RX9, "waste", "(I)I"⟩
abbrev cX9_cutCount : ByteArray := prog_11_method_27_code
def yX9_cutCount : MethodName := ⟨RX9, "cutCount", "(I)I"⟩
abbrev cX9_findJoints : ByteArray := prog_11_method_28_code
def yX9_findJoints : MethodName := ⟨RX9, "findJoints", "(I)V"⟩
abbrev cX9_isBroken : ByteArray := prog_11_method_29_code
def yX9_isBroken : MethodName := ⟨RX9, "isBroken", "(I)Z"⟩
abbrev cX9_choose : ByteArray := prog_11_method_30_code
def yX9_choose : MethodName := ⟨RX9, "choose", "(III)Z"⟩
abbrev cX9_fill : ByteArray := prog_11_method_31_code
def yX9_fill : MethodName := ⟨RX9, "fill", "(I)Z"⟩
abbrev cX9_giveBack : ByteArray := prog_11_method_32_code
def yX9_giveBack : MethodName := ⟨RX9, "giveBack", "(I)V"⟩
abbrev cX9_mayBegin : ByteArray := prog_11_method_33_code
def yX9_mayBegin : MethodName := ⟨RX9, "mayBegin", "(I)Z"⟩
abbrev cX9_layCourse : ByteArray := prog_11_method_34_code
def yX9_layCourse : MethodName := ⟨RX9, "layCourse", "(I)Z"⟩
abbrev cX9_takeUp : ByteArray := prog_11_method_35_code
def yX9_takeUp : MethodName := ⟨RX9, "takeUp", "()V"⟩
abbrev cX9_save : ByteArray := prog_11_method_36_code
def yX9_save : MethodName := ⟨RX9, "save", "()V"⟩
abbrev cX9_canLay : ByteArray := prog_11_method_37_code
def yX9_canLay : MethodName := ⟨RX9, "canLay", "(I)Z"⟩
abbrev cX9_course : ByteArray := prog_11_method_38_code
def yX9_course : MethodName := ⟨RX9, "course", "(I)I"⟩
abbrev cX9_up : ByteArray := prog_11_method_39_code
def yX9_up : MethodName := ⟨RX9, "up", "()I"⟩
abbrev cX9_isHeap : ByteArray := prog_11_method_40_code
def yX9_isHeap : MethodName := ⟨RX9, "isHeap", "(I)Z"⟩
abbrev cX9_bring : ByteArray := prog_11_method_41_code
def yX9_bring : MethodName := ⟨RX9, "bring", "(II)I"⟩
abbrev cX9_undo : ByteArray := prog_11_method_42_code
def yX9_undo : MethodName := ⟨RX9, "undo", "()I"⟩
abbrev cX9_laidOf : ByteArray := prog_11_method_43_code
def yX9_laidOf : MethodName := ⟨RX9, "laidOf", "(I)I"⟩
abbrev cX9_heap : ByteArray := prog_11_method_44_code
def yX9_heap : MethodName := ⟨RX9, "heap", "(II)I"⟩
abbrev cX9_isCourse : ByteArray := prog_11_method_45_code
def yX9_isCourse : MethodName := ⟨RX9, "isCourse", "(I)Z"⟩
abbrev cX9_lapHeld : ByteArray := prog_11_method_46_code
def yX9_lapHeld : MethodName := ⟨RX9, "lapHeld", "(I)I"⟩
abbrev cX9_told : ByteArray := prog_11_method_47_code
def yX9_told : MethodName := ⟨RX9, "told", "(II)I"⟩
abbrev cX9_joint : ByteArray := prog_11_method_48_code
def yX9_joint : MethodName := ⟨RX9, "joint", "(II)I"⟩
abbrev cX9_slate : ByteArray := prog_11_method_49_code
def yX9_slate : MethodName := ⟨RX9, "slate", "(III)I"⟩
abbrev cX9_tried : ByteArray := prog_11_method_50_code
def yX9_tried : MethodName := ⟨RX9, "tried", "(II)I"⟩
abbrev cX9_nextLength : ByteArray := prog_11_method_51_code
def yX9_nextLength : MethodName := ⟨RX9, "nextLength", "(I)I"⟩
abbrev cX9_next : ByteArray := prog_11_method_52_code
def yX9_next : MethodName := ⟨RX9, "next", "(I)I"⟩
abbrev cX9_itself : ByteArray := prog_11_method_53_code
def yX9_itself : MethodName := ⟨RX9, "itself", "(II)I"⟩
abbrev cX9_sumOf : ByteArray := prog_11_method_54_code
def yX9_sumOf : MethodName := ⟨RX9, "sumOf", "(I)I"⟩
abbrev cX9_count : ByteArray := prog_11_method_55_code
def yX9_count : MethodName := ⟨RX9, "count", "(I)I"⟩
def RJ9 : String := "java/lang/Math"
def TJ9 : u_T := fun k => match k with
  | _ => ("", "", "", false)
def tyJ9 : Nat → FieldType := fun k => match k with
  | _ => .int
abbrev wsJ90 : List Cond := u_ws RJ9 TJ9 0
theorem nmJ9 : ∀ a, a < 0 → ∀ b, b < 0 → a ≠ b → (TJ9 a).2.1 ≠ (TJ9 b).2.1 := by decide +kernel
theorem tyJ9_ok : ∀ k, k < 0 → parseFieldDescriptor (TJ9 k).2.2.1 = some (tyJ9 k) := by decide +kernel
abbrev cJ9_abs_0f7a4 : ByteArray := prog_12_method_59_code
def yJ9_abs_0f7a4 : MethodName := ⟨RJ9, "abs", "(I)I"⟩
abbrev cJ9_max_7cf53 : ByteArray := prog_12_method_65_code
def yJ9_max_7cf53 : MethodName := ⟨RJ9, "max", "(II)I"⟩
def RJ0 : String := "java/lang/String"
def TJ0 : u_T := fun k => match k with
  | _ => ("", "", "", false)
def tyJ0 : Nat → FieldType := fun k => match k with
  | _ => .int
abbrev wsJ00 : List Cond := u_ws RJ0 TJ0 0
theorem nmJ0 : ∀ a, a < 0 → ∀ b, b < 0 → a ≠ b → (TJ0 a).2.1 ≠ (TJ0 b).2.1 := by decide +kernel
theorem tyJ0_ok : ∀ k, k < 0 → parseFieldDescriptor (TJ0 k).2.2.1 = some (tyJ0 k) := by decide +kernel
abbrev cJ0_length_8abf5 : ByteArray := prog_13_method_54_code
def yJ0_length_8abf5 : MethodName := ⟨RJ0, "length", "()I"⟩
abbrev cJ0_charAt_5068e : ByteArray := prog_13_method_56_code
def yJ0_charAt_5068e : MethodName := ⟨RJ0, "charAt", "(I)C"⟩
abbrev cJ0_coder_7d493 : ByteArray := prog_13_method_152_code
def yJ0_coder_7d493 : MethodName := ⟨RJ0, "coder", "()B"⟩
abbrev cJ0_isLatin1_aae02 : ByteArray := prog_13_method_154_code
def yJ0_isLatin1_aae02 : MethodName := ⟨RJ0, "isLatin1", "()Z"⟩
abbrev cJ0_checkIndex_df160 : ByteArray := prog_13_method_155_code
def yJ0_checkIndex_df160 : MethodName := ⟨RJ0, "checkIndex", "(II)V"⟩
def RJ1 : String := "java/lang/StringLatin1"
def TJ1 : u_T := fun k => match k with
  | _ => ("", "", "", false)
def tyJ1 : Nat → FieldType := fun k => match k with
  | _ => .int
abbrev wsJ10 : List Cond := u_ws RJ1 TJ1 0
theorem nmJ1 : ∀ a, a < 0 → ∀ b, b < 0 → a ≠ b → (TJ1 a).2.1 ≠ (TJ1 b).2.1 := by decide +kernel
theorem tyJ1_ok : ∀ k, k < 0 → parseFieldDescriptor (TJ1 k).2.2.1 = some (tyJ1 k) := by decide +kernel
abbrev cJ1_charAt_3b067 : ByteArray := prog_14_method_2_code
def yJ1_charAt_3b067 : MethodName := ⟨RJ1, "charAt", "([BI)C"⟩
def RJ2 : String := "java/lang/StringUTF16"
def TJ2 : u_T := fun k => match k with
  | _ => ("", "", "", false)
def tyJ2 : Nat → FieldType := fun k => match k with
  | _ => .int
abbrev wsJ20 : List Cond := u_ws RJ2 TJ2 0
theorem nmJ2 : ∀ a, a < 0 → ∀ b, b < 0 → a ≠ b → (TJ2 a).2.1 ≠ (TJ2 b).2.1 := by decide +kernel
theorem tyJ2_ok : ∀ k, k < 0 → parseFieldDescriptor (TJ2 k).2.2.1 = some (tyJ2 k) := by decide +kernel
abbrev cJ2_getChar_3b067 : ByteArray := prog_15_method_5_code
def yJ2_getChar_3b067 : MethodName := ⟨RJ2, "getChar", "([BI)C"⟩
abbrev cJ2_length_9d52b : ByteArray := prog_15_method_6_code
def yJ2_length_9d52b : MethodName := ⟨RJ2, "length", "([B)I"⟩
abbrev cJ2_charAt_3b067 : ByteArray := prog_15_method_83_code
def yJ2_charAt_3b067 : MethodName := ⟨RJ2, "charAt", "([BI)C"⟩
abbrev cJ2_checkIndex_2214a : ByteArray := prog_15_method_91_code
def yJ2_checkIndex_2214a : MethodName := ⟨RJ2, "checkIndex", "(I[B)V"⟩
def RJ10 : String := "java/lang/System"
def TJ10 : u_T := fun k => match k with
  | _ => ("", "", "", false)
def tyJ10 : Nat → FieldType := fun k => match k with
  | _ => .int
abbrev wsJ100 : List Cond := u_ws RJ10 TJ10 0
theorem nmJ10 : ∀ a, a < 0 → ∀ b, b < 0 → a ≠ b → (TJ10 a).2.1 ≠ (TJ10 b).2.1 := by decide +kernel
theorem tyJ10_ok : ∀ k, k < 0 → parseFieldDescriptor (TJ10 k).2.2.1 = some (tyJ10 k) := by decide +kernel
def RJ3 : String := "jdk/internal/util/Preconditions"
def TJ3 : u_T := fun k => match k with
  | _ => ("", "", "", false)
def tyJ3 : Nat → FieldType := fun k => match k with
  | _ => .int
abbrev wsJ30 : List Cond := u_ws RJ3 TJ3 0
theorem nmJ3 : ∀ a, a < 0 → ∀ b, b < 0 → a ≠ b → (TJ3 a).2.1 ≠ (TJ3 b).2.1 := by decide +kernel
theorem tyJ3_ok : ∀ k, k < 0 → parseFieldDescriptor (TJ3 k).2.2.1 = some (tyJ3 k) := by decide +kernel
abbrev cJ3_checkIndex_8e157 : ByteArray := prog_17_method_11_code
def yJ3_checkIndex_8e157 : MethodName := ⟨RJ3, "checkIndex", "(IILjava/util/function/BiFunction;)I"⟩
def RL : String := "RoofCoursesLaw"
abbrev cL_law : ByteArray := code
def yL_law : MethodName := ⟨RL, "law", "([I)Z"⟩
def wsX3_init : List Cond := .code yX3_init cX3_init 1 none :: ([.methodLink RX3 3 objectInit, .instanceMethod objectInit, .code objectInit ⟨#[0xb1]⟩ 1 none, .arrayClass .int, .fieldLink RX3 9 "RoofCourses$Course" "heapOf" "[I", .fieldLink RX3 15 "RoofCourses$Course" "edge" "[I"] ++ wsX30)
def wsX0_init : List Cond := .code yX0_init cX0_init 4 none :: ([.methodLink RX0 3 objectInit, .instanceMethod objectInit, .code objectInit ⟨#[0xb1]⟩ 1 none, .arrayClass .int, .fieldLink RX0 9 "RoofCourses$Ahead" "left" "[I", .classLink RX0 15 RX3, .instantiable RX3 9, .initialized RX3, .fieldLink RX0 18 "RoofCourses$Ahead" "probe" "LRoofCourses$Course;", .fieldLink RX0 22 "RoofCourses$Ahead" "even" "LRoofCourses$Course;", .fieldLink RX0 25 "RoofCourses$Ahead" "odd" "LRoofCourses$Course;", .fieldLink RX0 28 "RoofCourses$Ahead" "plan" "LRoofCourses$Plan;", .fieldLink RX0 32 "RoofCourses$Ahead" "layer" "LRoofCourses$Layer;", .fieldLink RX0 36 "RoofCourses$Ahead" "roof" "LRoofCourses$Roof;", .instanceMethod yX3_init, .code yX3_init cX3_init 1 none, .methodLink RX3 3 objectInit, .fieldLink RX3 9 "RoofCourses$Course" "heapOf" "[I", .fieldLink RX3 15 "RoofCourses$Course" "edge" "[I"] ++ wsX00 ++ wsX30)
def wsX3_head : List Cond := .code yX3_head cX3_head 1 (some .int) :: ([.fieldLink RX3 22 "RoofCourses$Course" "foot" "I", .fieldLink RX3 25 "RoofCourses$Course" "gauge" "I"] ++ wsX30)
def wsX5_gaugeOf : List Cond := .code yX5_gaugeOf cX5_gaugeOf 2 (some .int) :: ([.fieldLink RX5 31 "RoofCourses$Plan" "lap" "I"] ++ wsX50)
def wsX5_roomAt : List Cond := .code yX5_roomAt cX5_roomAt 2 (some .int) :: ([.fieldLink RX5 28 "RoofCourses$Plan" "wide" "I", .fieldLink RX5 37 "RoofCourses$Plan" "hip" "I", .methodLink RX5 72 Lib.Math.max.name, .static Lib.Math.max.name, .initialized "java/lang/Math", .code Lib.Math.max.name Lib.Math.max.code 2 (some .int)] ++ wsX50)
def wsX3_begin : List Cond := .code yX3_begin cX3_begin 5 none :: ([.fieldLink RX3 18 "RoofCourses$Course" "length" "I", .fieldLink RX3 22 "RoofCourses$Course" "foot" "I", .fieldLink RX3 25 "RoofCourses$Course" "gauge" "I", .fieldLink RX3 28 "RoofCourses$Course" "room" "I", .fieldLink RX3 31 "RoofCourses$Course" "size" "I", .fieldLink RX3 34 "RoofCourses$Course" "waste" "I", .fieldLink RX3 37 "RoofCourses$Course" "cut" "I"] ++ wsX30)
def wsX3_startOf : List Cond := .code yX3_startOf cX3_startOf 2 (some .int) :: ([.fieldLink RX3 15 "RoofCourses$Course" "edge" "[I"] ++ wsX30)
def wsX4_serves : List Cond := .code yX4_serves cX4_serves 3 (some .boolean) :: ([.fieldLink RX4 15 "RoofCourses$Layer" "plan" "LRoofCourses$Plan;", .fieldLink RX4 81 "RoofCourses$Plan" "length" "[I", .fieldLink RX4 84 "RoofCourses$Course" "length" "I", .fieldLink RX4 9 "RoofCourses$Layer" "rest" "[I"] ++ wsX40 ++ wsX50 ++ wsX30)
def wsX4_endingAt : List Cond := .code yX4_endingAt cX4_endingAt 4 (some .int) :: ([.fieldLink RX4 15 "RoofCourses$Layer" "plan" "LRoofCourses$Plan;", .fieldLink RX4 86 "RoofCourses$Plan" "heaps" "I", .fieldLink RX4 55 "RoofCourses$Plan" "breadth" "[I", .fieldLink RX4 58 "RoofCourses$Course" "room" "I", .methodLink RX4 89 yX4_serves, .instanceMethod yX4_serves, .selects RX4 yX4_serves yX4_serves, .initialized RX4, .code yX4_serves cX4_serves 3 (some .boolean), .fieldLink RX4 81 "RoofCourses$Plan" "length" "[I", .fieldLink RX4 84 "RoofCourses$Course" "length" "I", .fieldLink RX4 9 "RoofCourses$Layer" "rest" "[I"] ++ wsX40 ++ wsX50 ++ wsX30)
def wsX3_put : List Cond := .code yX3_put cX3_put 4 none :: ([.fieldLink RX3 31 "RoofCourses$Course" "size" "I", .fieldLink RX3 9 "RoofCourses$Course" "heapOf" "[I", .fieldLink RX3 15 "RoofCourses$Course" "edge" "[I", .fieldLink RX3 37 "RoofCourses$Course" "cut" "I", .fieldLink RX3 34 "RoofCourses$Course" "waste" "I", .fieldLink RX3 18 "RoofCourses$Course" "length" "I", .methodLink RX3 40 yX3_startOf, .instanceMethod yX3_startOf, .selects RX3 yX3_startOf yX3_startOf, .initialized RX3, .code yX3_startOf cX3_startOf 2 (some .int)] ++ wsX30)
def wsX3_joints : List Cond := .code yX3_joints cX3_joints 1 (some .int) :: ([.fieldLink RX3 31 "RoofCourses$Course" "size" "I", .methodLink RX3 44 Lib.Math.max.name, .static Lib.Math.max.name, .initialized "java/lang/Math", .code Lib.Math.max.name Lib.Math.max.code 2 (some .int)] ++ wsX30)
def wsX3_isBrokenAt : List Cond := .code yX3_isBrokenAt cX3_isBrokenAt 4 (some .boolean) :: ([.fieldLink RX3 15 "RoofCourses$Course" "edge" "[I", .methodLink RX3 54 Lib.Math.abs.name, .static Lib.Math.abs.name, .initialized "java/lang/Math", .code Lib.Math.abs.name Lib.Math.abs.code 1 (some .int), .methodLink RX3 50 yX3_joints, .instanceMethod yX3_joints, .selects RX3 yX3_joints yX3_joints, .initialized RX3, .code yX3_joints cX3_joints 1 (some .int), .fieldLink RX3 31 "RoofCourses$Course" "size" "I", .methodLink RX3 44 Lib.Math.max.name, .static Lib.Math.max.name, .code Lib.Math.max.name Lib.Math.max.code 2 (some .int)] ++ wsX30)
def wsX4_brokenAt_r1 : List Cond := [Cond.fieldLink RX4 15 "RoofCourses$Layer" "plan" "LRoofCourses$Plan;", Cond.fieldLink RX4 86 "RoofCourses$Plan" "heaps" "I", Cond.fieldLink RX4 55 "RoofCourses$Plan" "breadth" "[I", Cond.fieldLink RX4 93 "RoofCourses$Plan" "breaking" "I", Cond.methodLink RX4 89 yX4_serves, Cond.instanceMethod yX4_serves, Cond.selects RX4 yX4_serves yX4_serves, Cond.initialized RX4, Cond.code yX4_serves cX4_serves 3 (some .boolean), Cond.fieldLink RX4 81 "RoofCourses$Plan" "length" "[I", Cond.fieldLink RX4 84 "RoofCourses$Course" "length" "I", Cond.fieldLink RX4 9 "RoofCourses$Layer" "rest" "[I", Cond.methodLink RX4 96 yX3_isBrokenAt, Cond.instanceMethod yX3_isBrokenAt, Cond.selects RX3 yX3_isBrokenAt yX3_isBrokenAt, Cond.initialized RX3, Cond.code yX3_isBrokenAt cX3_isBrokenAt 4 (some .boolean), Cond.fieldLink RX3 15 "RoofCourses$Course" "edge" "[I", Cond.methodLink RX3 54 Lib.Math.abs.name, Cond.static Lib.Math.abs.name, Cond.initialized "java/lang/Math", Cond.code Lib.Math.abs.name Lib.Math.abs.code 1 (some .int), Cond.methodLink RX3 50 yX3_joints, Cond.instanceMethod yX3_joints]
def wsX4_brokenAt_r2 : List Cond := [Cond.selects RX3 yX3_joints yX3_joints, Cond.code yX3_joints cX3_joints 1 (some .int), Cond.fieldLink RX3 31 "RoofCourses$Course" "size" "I", Cond.methodLink RX3 44 Lib.Math.max.name, Cond.static Lib.Math.max.name, Cond.code Lib.Math.max.name Lib.Math.max.code 2 (some .int)]
def wsX4_brokenAt : List Cond := .code yX4_brokenAt cX4_brokenAt 5 (some .int) :: ((wsX4_brokenAt_r1 ++ wsX4_brokenAt_r2) ++ wsX40 ++ wsX50 ++ wsX30)
def wsX4_broadestFor : List Cond := .code yX4_broadestFor cX4_broadestFor 3 (some .int) :: ([.fieldLink RX4 15 "RoofCourses$Layer" "plan" "LRoofCourses$Plan;", .fieldLink RX4 86 "RoofCourses$Plan" "heaps" "I", .methodLink RX4 89 yX4_serves, .instanceMethod yX4_serves, .selects RX4 yX4_serves yX4_serves, .initialized RX4, .code yX4_serves cX4_serves 3 (some .boolean), .fieldLink RX4 81 "RoofCourses$Plan" "length" "[I", .fieldLink RX4 84 "RoofCourses$Course" "length" "I", .fieldLink RX4 9 "RoofCourses$Layer" "rest" "[I"] ++ wsX40 ++ wsX50 ++ wsX30)
def wsX4_cutAt : List Cond := .code yX4_cutAt cX4_cutAt 5 (some .int) :: ([.fieldLink RX4 15 "RoofCourses$Layer" "plan" "LRoofCourses$Plan;", .fieldLink RX4 93 "RoofCourses$Plan" "breaking" "I", .methodLink RX4 96 yX3_isBrokenAt, .instanceMethod yX3_isBrokenAt, .selects RX3 yX3_isBrokenAt yX3_isBrokenAt, .initialized RX3, .code yX3_isBrokenAt cX3_isBrokenAt 4 (some .boolean), .fieldLink RX3 15 "RoofCourses$Course" "edge" "[I", .methodLink RX3 54 Lib.Math.abs.name, .static Lib.Math.abs.name, .initialized "java/lang/Math", .code Lib.Math.abs.name Lib.Math.abs.code 1 (some .int), .methodLink RX3 50 yX3_joints, .instanceMethod yX3_joints, .selects RX3 yX3_joints yX3_joints, .code yX3_joints cX3_joints 1 (some .int), .fieldLink RX3 31 "RoofCourses$Course" "size" "I", .methodLink RX3 44 Lib.Math.max.name, .static Lib.Math.max.name, .code Lib.Math.max.name Lib.Math.max.code 2 (some .int)] ++ wsX40 ++ wsX50 ++ wsX30)
def wsX4_putWithJoint_r1 : List Cond := [Cond.fieldLink RX4 9 "RoofCourses$Layer" "rest" "[I", Cond.fieldLink RX4 15 "RoofCourses$Layer" "plan" "LRoofCourses$Plan;", Cond.fieldLink RX4 55 "RoofCourses$Plan" "breadth" "[I", Cond.methodLink RX4 69 yX4_brokenAt, Cond.instanceMethod yX4_brokenAt, Cond.selects RX4 yX4_brokenAt yX4_brokenAt, Cond.initialized RX4, Cond.code yX4_brokenAt cX4_brokenAt 5 (some .int), Cond.fieldLink RX4 86 "RoofCourses$Plan" "heaps" "I", Cond.fieldLink RX4 93 "RoofCourses$Plan" "breaking" "I", Cond.methodLink RX4 89 yX4_serves, Cond.instanceMethod yX4_serves, Cond.selects RX4 yX4_serves yX4_serves, Cond.code yX4_serves cX4_serves 3 (some .boolean), Cond.fieldLink RX4 81 "RoofCourses$Plan" "length" "[I", Cond.fieldLink RX4 84 "RoofCourses$Course" "length" "I", Cond.methodLink RX4 96 yX3_isBrokenAt, Cond.instanceMethod yX3_isBrokenAt, Cond.selects RX3 yX3_isBrokenAt yX3_isBrokenAt, Cond.initialized RX3, Cond.code yX3_isBrokenAt cX3_isBrokenAt 4 (some .boolean), Cond.fieldLink RX3 15 "RoofCourses$Course" "edge" "[I", Cond.methodLink RX3 54 Lib.Math.abs.name, Cond.static Lib.Math.abs.name]
def wsX4_putWithJoint_r2 : List Cond := [Cond.initialized "java/lang/Math", Cond.code Lib.Math.abs.name Lib.Math.abs.code 1 (some .int), Cond.methodLink RX3 50 yX3_joints, Cond.instanceMethod yX3_joints, Cond.selects RX3 yX3_joints yX3_joints, Cond.code yX3_joints cX3_joints 1 (some .int), Cond.fieldLink RX3 31 "RoofCourses$Course" "size" "I", Cond.methodLink RX3 44 Lib.Math.max.name, Cond.static Lib.Math.max.name, Cond.code Lib.Math.max.name Lib.Math.max.code 2 (some .int), Cond.methodLink RX4 61 yX3_put, Cond.instanceMethod yX3_put, Cond.selects RX3 yX3_put yX3_put, Cond.code yX3_put cX3_put 4 none, Cond.fieldLink RX3 9 "RoofCourses$Course" "heapOf" "[I", Cond.fieldLink RX3 37 "RoofCourses$Course" "cut" "I", Cond.fieldLink RX3 34 "RoofCourses$Course" "waste" "I", Cond.fieldLink RX3 18 "RoofCourses$Course" "length" "I", Cond.methodLink RX3 40 yX3_startOf, Cond.instanceMethod yX3_startOf, Cond.selects RX3 yX3_startOf yX3_startOf, Cond.code yX3_startOf cX3_startOf 2 (some .int), Cond.methodLink RX4 73 yX4_broadestFor, Cond.instanceMethod yX4_broadestFor]
def wsX4_putWithJoint_r3 : List Cond := [Cond.selects RX4 yX4_broadestFor yX4_broadestFor, Cond.code yX4_broadestFor cX4_broadestFor 3 (some .int), Cond.methodLink RX4 77 yX4_cutAt, Cond.instanceMethod yX4_cutAt, Cond.selects RX4 yX4_cutAt yX4_cutAt, Cond.code yX4_cutAt cX4_cutAt 5 (some .int)]
def wsX4_putWithJoint : List Cond := .code yX4_putWithJoint cX4_putWithJoint 7 (some .boolean) :: ((wsX4_putWithJoint_r1 ++ (wsX4_putWithJoint_r2 ++ wsX4_putWithJoint_r3)) ++ wsX40 ++ wsX50 ++ wsX30)
def wsX4_fill_r1 : List Cond := [Cond.fieldLink RX4 9 "RoofCourses$Layer" "rest" "[I", Cond.methodLink RX4 19 arraycopyName, Cond.native arraycopyName, Cond.static arraycopyName, Cond.initialized "java/lang/System", Cond.fieldLink RX4 15 "RoofCourses$Layer" "plan" "LRoofCourses$Plan;", Cond.fieldLink RX4 44 "RoofCourses$Course" "size" "I", Cond.fieldLink RX4 55 "RoofCourses$Plan" "breadth" "[I", Cond.fieldLink RX4 58 "RoofCourses$Course" "room" "I", Cond.methodLink RX4 25 yX3_head, Cond.instanceMethod yX3_head, Cond.selects RX3 yX3_head yX3_head, Cond.initialized RX3, Cond.code yX3_head cX3_head 1 (some .int), Cond.fieldLink RX3 22 "RoofCourses$Course" "foot" "I", Cond.fieldLink RX3 25 "RoofCourses$Course" "gauge" "I", Cond.methodLink RX4 31 yX5_gaugeOf, Cond.instanceMethod yX5_gaugeOf, Cond.selects RX5 yX5_gaugeOf yX5_gaugeOf, Cond.initialized RX5, Cond.code yX5_gaugeOf cX5_gaugeOf 2 (some .int), Cond.fieldLink RX5 31 "RoofCourses$Plan" "lap" "I", Cond.methodLink RX4 37 yX5_roomAt, Cond.instanceMethod yX5_roomAt]
def wsX4_fill_r2 : List Cond := [Cond.selects RX5 yX5_roomAt yX5_roomAt, Cond.code yX5_roomAt cX5_roomAt 2 (some .int), Cond.fieldLink RX5 28 "RoofCourses$Plan" "wide" "I", Cond.fieldLink RX5 37 "RoofCourses$Plan" "hip" "I", Cond.methodLink RX5 72 Lib.Math.max.name, Cond.static Lib.Math.max.name, Cond.initialized "java/lang/Math", Cond.code Lib.Math.max.name Lib.Math.max.code 2 (some .int), Cond.methodLink RX4 40 yX3_begin, Cond.instanceMethod yX3_begin, Cond.selects RX3 yX3_begin yX3_begin, Cond.code yX3_begin cX3_begin 5 none, Cond.fieldLink RX3 18 "RoofCourses$Course" "length" "I", Cond.fieldLink RX3 28 "RoofCourses$Course" "room" "I", Cond.fieldLink RX3 31 "RoofCourses$Course" "size" "I", Cond.fieldLink RX3 34 "RoofCourses$Course" "waste" "I", Cond.fieldLink RX3 37 "RoofCourses$Course" "cut" "I", Cond.methodLink RX4 48 yX3_startOf, Cond.instanceMethod yX3_startOf, Cond.selects RX3 yX3_startOf yX3_startOf, Cond.code yX3_startOf cX3_startOf 2 (some .int), Cond.fieldLink RX3 15 "RoofCourses$Course" "edge" "[I", Cond.methodLink RX4 51 yX4_endingAt, Cond.instanceMethod yX4_endingAt]
def wsX4_fill_r3 : List Cond := [Cond.selects RX4 yX4_endingAt yX4_endingAt, Cond.initialized RX4, Cond.code yX4_endingAt cX4_endingAt 4 (some .int), Cond.fieldLink RX4 86 "RoofCourses$Plan" "heaps" "I", Cond.methodLink RX4 89 yX4_serves, Cond.instanceMethod yX4_serves, Cond.selects RX4 yX4_serves yX4_serves, Cond.code yX4_serves cX4_serves 3 (some .boolean), Cond.fieldLink RX4 81 "RoofCourses$Plan" "length" "[I", Cond.fieldLink RX4 84 "RoofCourses$Course" "length" "I", Cond.methodLink RX4 61 yX3_put, Cond.instanceMethod yX3_put, Cond.selects RX3 yX3_put yX3_put, Cond.code yX3_put cX3_put 4 none, Cond.fieldLink RX3 9 "RoofCourses$Course" "heapOf" "[I", Cond.methodLink RX3 40 yX3_startOf, Cond.methodLink RX4 65 yX4_putWithJoint, Cond.instanceMethod yX4_putWithJoint, Cond.selects RX4 yX4_putWithJoint yX4_putWithJoint, Cond.code yX4_putWithJoint cX4_putWithJoint 7 (some .boolean), Cond.methodLink RX4 69 yX4_brokenAt, Cond.instanceMethod yX4_brokenAt, Cond.selects RX4 yX4_brokenAt yX4_brokenAt, Cond.code yX4_brokenAt cX4_brokenAt 5 (some .int)]
def wsX4_fill_r4 : List Cond := [Cond.fieldLink RX4 93 "RoofCourses$Plan" "breaking" "I", Cond.methodLink RX4 96 yX3_isBrokenAt, Cond.instanceMethod yX3_isBrokenAt, Cond.selects RX3 yX3_isBrokenAt yX3_isBrokenAt, Cond.code yX3_isBrokenAt cX3_isBrokenAt 4 (some .boolean), Cond.methodLink RX3 54 Lib.Math.abs.name, Cond.static Lib.Math.abs.name, Cond.code Lib.Math.abs.name Lib.Math.abs.code 1 (some .int), Cond.methodLink RX3 50 yX3_joints, Cond.instanceMethod yX3_joints, Cond.selects RX3 yX3_joints yX3_joints, Cond.code yX3_joints cX3_joints 1 (some .int), Cond.methodLink RX3 44 Lib.Math.max.name, Cond.methodLink RX4 73 yX4_broadestFor, Cond.instanceMethod yX4_broadestFor, Cond.selects RX4 yX4_broadestFor yX4_broadestFor, Cond.code yX4_broadestFor cX4_broadestFor 3 (some .int), Cond.methodLink RX4 77 yX4_cutAt, Cond.instanceMethod yX4_cutAt, Cond.selects RX4 yX4_cutAt yX4_cutAt, Cond.code yX4_cutAt cX4_cutAt 5 (some .int)]
def wsX4_fill : List Cond := .code yX4_fill cX4_fill 9 (some .boolean) :: ((wsX4_fill_r1 ++ (wsX4_fill_r2 ++ (wsX4_fill_r3 ++ wsX4_fill_r4))) ++ wsX40 ++ wsX30 ++ wsX50)
def wsX0_choose_r1 : List Cond := [Cond.fieldLink RX0 28 "RoofCourses$Ahead" "plan" "LRoofCourses$Plan;", Cond.fieldLink RX0 40 "RoofCourses$Plan" "heaps" "I", Cond.fieldLink RX0 46 "RoofCourses$Plan" "length" "[I", Cond.fieldLink RX0 49 "RoofCourses$Course" "length" "I", Cond.fieldLink RX0 32 "RoofCourses$Ahead" "layer" "LRoofCourses$Layer;", Cond.fieldLink RX0 18 "RoofCourses$Ahead" "probe" "LRoofCourses$Course;", Cond.fieldLink RX0 57 "RoofCourses$Course" "waste" "I", Cond.fieldLink RX0 60 "RoofCourses$Course" "gauge" "I", Cond.methodLink RX0 51 yX4_fill, Cond.instanceMethod yX4_fill, Cond.selects RX4 yX4_fill yX4_fill, Cond.initialized RX4, Cond.code yX4_fill cX4_fill 9 (some .boolean), Cond.fieldLink RX4 9 "RoofCourses$Layer" "rest" "[I", Cond.methodLink RX4 19 arraycopyName, Cond.native arraycopyName, Cond.static arraycopyName, Cond.initialized "java/lang/System", Cond.fieldLink RX4 15 "RoofCourses$Layer" "plan" "LRoofCourses$Plan;", Cond.fieldLink RX4 44 "RoofCourses$Course" "size" "I", Cond.fieldLink RX4 55 "RoofCourses$Plan" "breadth" "[I", Cond.fieldLink RX4 58 "RoofCourses$Course" "room" "I", Cond.methodLink RX4 25 yX3_head, Cond.instanceMethod yX3_head]
def wsX0_choose_r2 : List Cond := [Cond.selects RX3 yX3_head yX3_head, Cond.initialized RX3, Cond.code yX3_head cX3_head 1 (some .int), Cond.fieldLink RX3 22 "RoofCourses$Course" "foot" "I", Cond.fieldLink RX3 25 "RoofCourses$Course" "gauge" "I", Cond.methodLink RX4 31 yX5_gaugeOf, Cond.instanceMethod yX5_gaugeOf, Cond.selects RX5 yX5_gaugeOf yX5_gaugeOf, Cond.initialized RX5, Cond.code yX5_gaugeOf cX5_gaugeOf 2 (some .int), Cond.fieldLink RX5 31 "RoofCourses$Plan" "lap" "I", Cond.methodLink RX4 37 yX5_roomAt, Cond.instanceMethod yX5_roomAt, Cond.selects RX5 yX5_roomAt yX5_roomAt, Cond.code yX5_roomAt cX5_roomAt 2 (some .int), Cond.fieldLink RX5 28 "RoofCourses$Plan" "wide" "I", Cond.fieldLink RX5 37 "RoofCourses$Plan" "hip" "I", Cond.methodLink RX5 72 Lib.Math.max.name, Cond.static Lib.Math.max.name, Cond.initialized "java/lang/Math", Cond.code Lib.Math.max.name Lib.Math.max.code 2 (some .int), Cond.methodLink RX4 40 yX3_begin, Cond.instanceMethod yX3_begin, Cond.selects RX3 yX3_begin yX3_begin]
def wsX0_choose_r3 : List Cond := [Cond.code yX3_begin cX3_begin 5 none, Cond.fieldLink RX3 18 "RoofCourses$Course" "length" "I", Cond.fieldLink RX3 28 "RoofCourses$Course" "room" "I", Cond.fieldLink RX3 31 "RoofCourses$Course" "size" "I", Cond.fieldLink RX3 34 "RoofCourses$Course" "waste" "I", Cond.fieldLink RX3 37 "RoofCourses$Course" "cut" "I", Cond.methodLink RX4 48 yX3_startOf, Cond.instanceMethod yX3_startOf, Cond.selects RX3 yX3_startOf yX3_startOf, Cond.code yX3_startOf cX3_startOf 2 (some .int), Cond.fieldLink RX3 15 "RoofCourses$Course" "edge" "[I", Cond.methodLink RX4 51 yX4_endingAt, Cond.instanceMethod yX4_endingAt, Cond.selects RX4 yX4_endingAt yX4_endingAt, Cond.code yX4_endingAt cX4_endingAt 4 (some .int), Cond.fieldLink RX4 86 "RoofCourses$Plan" "heaps" "I", Cond.methodLink RX4 89 yX4_serves, Cond.instanceMethod yX4_serves, Cond.selects RX4 yX4_serves yX4_serves, Cond.code yX4_serves cX4_serves 3 (some .boolean), Cond.fieldLink RX4 81 "RoofCourses$Plan" "length" "[I", Cond.fieldLink RX4 84 "RoofCourses$Course" "length" "I", Cond.methodLink RX4 61 yX3_put, Cond.instanceMethod yX3_put]
def wsX0_choose_r4 : List Cond := [Cond.selects RX3 yX3_put yX3_put, Cond.code yX3_put cX3_put 4 none, Cond.fieldLink RX3 9 "RoofCourses$Course" "heapOf" "[I", Cond.methodLink RX3 40 yX3_startOf, Cond.methodLink RX4 65 yX4_putWithJoint, Cond.instanceMethod yX4_putWithJoint, Cond.selects RX4 yX4_putWithJoint yX4_putWithJoint, Cond.code yX4_putWithJoint cX4_putWithJoint 7 (some .boolean), Cond.methodLink RX4 69 yX4_brokenAt, Cond.instanceMethod yX4_brokenAt, Cond.selects RX4 yX4_brokenAt yX4_brokenAt, Cond.code yX4_brokenAt cX4_brokenAt 5 (some .int), Cond.fieldLink RX4 93 "RoofCourses$Plan" "breaking" "I", Cond.methodLink RX4 96 yX3_isBrokenAt, Cond.instanceMethod yX3_isBrokenAt, Cond.selects RX3 yX3_isBrokenAt yX3_isBrokenAt, Cond.code yX3_isBrokenAt cX3_isBrokenAt 4 (some .boolean), Cond.methodLink RX3 54 Lib.Math.abs.name, Cond.static Lib.Math.abs.name, Cond.code Lib.Math.abs.name Lib.Math.abs.code 1 (some .int), Cond.methodLink RX3 50 yX3_joints, Cond.instanceMethod yX3_joints, Cond.selects RX3 yX3_joints yX3_joints, Cond.code yX3_joints cX3_joints 1 (some .int)]
def wsX0_choose_r5 : List Cond := [Cond.methodLink RX3 44 Lib.Math.max.name, Cond.methodLink RX4 73 yX4_broadestFor, Cond.instanceMethod yX4_broadestFor, Cond.selects RX4 yX4_broadestFor yX4_broadestFor, Cond.code yX4_broadestFor cX4_broadestFor 3 (some .int), Cond.methodLink RX4 77 yX4_cutAt, Cond.instanceMethod yX4_cutAt, Cond.selects RX4 yX4_cutAt yX4_cutAt, Cond.code yX4_cutAt cX4_cutAt 5 (some .int)]
def wsX0_choose : List Cond := .code yX0_choose cX0_choose 10 (some .int) :: ((wsX0_choose_r1 ++ (wsX0_choose_r2 ++ (wsX0_choose_r3 ++ (wsX0_choose_r4 ++ wsX0_choose_r5)))) ++ wsX00 ++ wsX50 ++ wsX30 ++ wsX40)
def wsX6_last : List Cond := .code yX6_last cX6_last 1 (some (.object "RoofCourses$Course")) :: ([.fieldLink RX6 45 "RoofCourses$Roof" "size" "I", .fieldLink RX6 17 "RoofCourses$Roof" "courses" "[LRoofCourses$Course;", .fieldLink RX6 22 "RoofCourses$Roof" "ground" "LRoofCourses$Course;"] ++ wsX60)
def wsX5_isReadyBy : List Cond := .code yX5_isReadyBy cX5_isReadyBy 2 (some .boolean) :: ([.fieldLink RX5 25 "RoofCourses$Plan" "high" "I", .methodLink RX5 77 yX3_head, .instanceMethod yX3_head, .selects RX3 yX3_head yX3_head, .initialized RX3, .code yX3_head cX3_head 1 (some .int), .fieldLink RX3 22 "RoofCourses$Course" "foot" "I", .fieldLink RX3 25 "RoofCourses$Course" "gauge" "I"] ++ wsX50 ++ wsX30)
def wsX6_addSlates : List Cond := .code yX6_addSlates cX6_addSlates 4 none :: ([.fieldLink RX6 60 "RoofCourses$Course" "size" "I", .fieldLink RX6 61 "RoofCourses$Course" "heapOf" "[I"] ++ wsX30)
def wsX0_go_r1 : List Cond := [Cond.fieldLink RX0 36 "RoofCourses$Ahead" "roof" "LRoofCourses$Roof;", Cond.fieldLink RX0 63 "RoofCourses$Roof" "left" "[I", Cond.fieldLink RX0 9 "RoofCourses$Ahead" "left" "[I", Cond.methodLink RX0 66 arraycopyName, Cond.native arraycopyName, Cond.static arraycopyName, Cond.initialized "java/lang/System", Cond.fieldLink RX0 72 "RoofCourses$Ahead" "more" "I", Cond.fieldLink RX0 75 "RoofCourses$Ahead" "waste" "I", Cond.fieldLink RX0 80 "RoofCourses$Roof" "size" "I", Cond.fieldLink RX0 28 "RoofCourses$Ahead" "plan" "LRoofCourses$Plan;", Cond.fieldLink RX0 22 "RoofCourses$Ahead" "even" "LRoofCourses$Course;", Cond.fieldLink RX0 25 "RoofCourses$Ahead" "odd" "LRoofCourses$Course;", Cond.fieldLink RX0 32 "RoofCourses$Ahead" "layer" "LRoofCourses$Layer;", Cond.fieldLink RX0 57 "RoofCourses$Course" "waste" "I", Cond.fieldLink RX0 95 "RoofCourses$Ahead" "ready" "Z", Cond.methodLink RX0 76 yX6_last, Cond.instanceMethod yX6_last, Cond.selects RX6 yX6_last yX6_last, Cond.initialized RX6, Cond.code yX6_last cX6_last 1 (some (.object "RoofCourses$Course")), Cond.fieldLink RX6 45 "RoofCourses$Roof" "size" "I", Cond.fieldLink RX6 17 "RoofCourses$Roof" "courses" "[LRoofCourses$Course;", Cond.fieldLink RX6 22 "RoofCourses$Roof" "ground" "LRoofCourses$Course;"]
def wsX0_go_r2 : List Cond := [Cond.methodLink RX0 83 yX5_isReadyBy, Cond.instanceMethod yX5_isReadyBy, Cond.selects RX5 yX5_isReadyBy yX5_isReadyBy, Cond.initialized RX5, Cond.code yX5_isReadyBy cX5_isReadyBy 2 (some .boolean), Cond.fieldLink RX5 25 "RoofCourses$Plan" "high" "I", Cond.methodLink RX5 77 yX3_head, Cond.instanceMethod yX3_head, Cond.selects RX3 yX3_head yX3_head, Cond.initialized RX3, Cond.code yX3_head cX3_head 1 (some .int), Cond.fieldLink RX3 22 "RoofCourses$Course" "foot" "I", Cond.fieldLink RX3 25 "RoofCourses$Course" "gauge" "I", Cond.methodLink RX0 87 yX0_choose, Cond.instanceMethod yX0_choose, Cond.selects RX0 yX0_choose yX0_choose, Cond.initialized RX0, Cond.code yX0_choose cX0_choose 10 (some .int), Cond.fieldLink RX0 40 "RoofCourses$Plan" "heaps" "I", Cond.fieldLink RX0 46 "RoofCourses$Plan" "length" "[I", Cond.fieldLink RX0 49 "RoofCourses$Course" "length" "I", Cond.fieldLink RX0 18 "RoofCourses$Ahead" "probe" "LRoofCourses$Course;", Cond.fieldLink RX0 60 "RoofCourses$Course" "gauge" "I", Cond.methodLink RX0 51 yX4_fill]
def wsX0_go_r3 : List Cond := [Cond.instanceMethod yX4_fill, Cond.selects RX4 yX4_fill yX4_fill, Cond.initialized RX4, Cond.code yX4_fill cX4_fill 9 (some .boolean), Cond.fieldLink RX4 9 "RoofCourses$Layer" "rest" "[I", Cond.methodLink RX4 19 arraycopyName, Cond.fieldLink RX4 15 "RoofCourses$Layer" "plan" "LRoofCourses$Plan;", Cond.fieldLink RX4 44 "RoofCourses$Course" "size" "I", Cond.fieldLink RX4 55 "RoofCourses$Plan" "breadth" "[I", Cond.fieldLink RX4 58 "RoofCourses$Course" "room" "I", Cond.methodLink RX4 25 yX3_head, Cond.methodLink RX4 31 yX5_gaugeOf, Cond.instanceMethod yX5_gaugeOf, Cond.selects RX5 yX5_gaugeOf yX5_gaugeOf, Cond.code yX5_gaugeOf cX5_gaugeOf 2 (some .int), Cond.fieldLink RX5 31 "RoofCourses$Plan" "lap" "I", Cond.methodLink RX4 37 yX5_roomAt, Cond.instanceMethod yX5_roomAt, Cond.selects RX5 yX5_roomAt yX5_roomAt, Cond.code yX5_roomAt cX5_roomAt 2 (some .int), Cond.fieldLink RX5 28 "RoofCourses$Plan" "wide" "I", Cond.fieldLink RX5 37 "RoofCourses$Plan" "hip" "I", Cond.methodLink RX5 72 Lib.Math.max.name, Cond.static Lib.Math.max.name]
def wsX0_go_r4 : List Cond := [Cond.initialized "java/lang/Math", Cond.code Lib.Math.max.name Lib.Math.max.code 2 (some .int), Cond.methodLink RX4 40 yX3_begin, Cond.instanceMethod yX3_begin, Cond.selects RX3 yX3_begin yX3_begin, Cond.code yX3_begin cX3_begin 5 none, Cond.fieldLink RX3 18 "RoofCourses$Course" "length" "I", Cond.fieldLink RX3 28 "RoofCourses$Course" "room" "I", Cond.fieldLink RX3 31 "RoofCourses$Course" "size" "I", Cond.fieldLink RX3 34 "RoofCourses$Course" "waste" "I", Cond.fieldLink RX3 37 "RoofCourses$Course" "cut" "I", Cond.methodLink RX4 48 yX3_startOf, Cond.instanceMethod yX3_startOf, Cond.selects RX3 yX3_startOf yX3_startOf, Cond.code yX3_startOf cX3_startOf 2 (some .int), Cond.fieldLink RX3 15 "RoofCourses$Course" "edge" "[I", Cond.methodLink RX4 51 yX4_endingAt, Cond.instanceMethod yX4_endingAt, Cond.selects RX4 yX4_endingAt yX4_endingAt, Cond.code yX4_endingAt cX4_endingAt 4 (some .int), Cond.fieldLink RX4 86 "RoofCourses$Plan" "heaps" "I", Cond.methodLink RX4 89 yX4_serves, Cond.instanceMethod yX4_serves, Cond.selects RX4 yX4_serves yX4_serves]
def wsX0_go_r5 : List Cond := [Cond.code yX4_serves cX4_serves 3 (some .boolean), Cond.fieldLink RX4 81 "RoofCourses$Plan" "length" "[I", Cond.fieldLink RX4 84 "RoofCourses$Course" "length" "I", Cond.methodLink RX4 61 yX3_put, Cond.instanceMethod yX3_put, Cond.selects RX3 yX3_put yX3_put, Cond.code yX3_put cX3_put 4 none, Cond.fieldLink RX3 9 "RoofCourses$Course" "heapOf" "[I", Cond.methodLink RX3 40 yX3_startOf, Cond.methodLink RX4 65 yX4_putWithJoint, Cond.instanceMethod yX4_putWithJoint, Cond.selects RX4 yX4_putWithJoint yX4_putWithJoint, Cond.code yX4_putWithJoint cX4_putWithJoint 7 (some .boolean), Cond.methodLink RX4 69 yX4_brokenAt, Cond.instanceMethod yX4_brokenAt, Cond.selects RX4 yX4_brokenAt yX4_brokenAt, Cond.code yX4_brokenAt cX4_brokenAt 5 (some .int), Cond.fieldLink RX4 93 "RoofCourses$Plan" "breaking" "I", Cond.methodLink RX4 96 yX3_isBrokenAt, Cond.instanceMethod yX3_isBrokenAt, Cond.selects RX3 yX3_isBrokenAt yX3_isBrokenAt, Cond.code yX3_isBrokenAt cX3_isBrokenAt 4 (some .boolean), Cond.methodLink RX3 54 Lib.Math.abs.name, Cond.static Lib.Math.abs.name]
def wsX0_go_r6 : List Cond := [Cond.code Lib.Math.abs.name Lib.Math.abs.code 1 (some .int), Cond.methodLink RX3 50 yX3_joints, Cond.instanceMethod yX3_joints, Cond.selects RX3 yX3_joints yX3_joints, Cond.code yX3_joints cX3_joints 1 (some .int), Cond.methodLink RX3 44 Lib.Math.max.name, Cond.methodLink RX4 73 yX4_broadestFor, Cond.instanceMethod yX4_broadestFor, Cond.selects RX4 yX4_broadestFor yX4_broadestFor, Cond.code yX4_broadestFor cX4_broadestFor 3 (some .int), Cond.methodLink RX4 77 yX4_cutAt, Cond.instanceMethod yX4_cutAt, Cond.selects RX4 yX4_cutAt yX4_cutAt, Cond.code yX4_cutAt cX4_cutAt 5 (some .int), Cond.methodLink RX0 91 yX6_addSlates, Cond.static yX6_addSlates, Cond.code yX6_addSlates cX6_addSlates 4 none, Cond.fieldLink RX6 60 "RoofCourses$Course" "size" "I", Cond.fieldLink RX6 61 "RoofCourses$Course" "heapOf" "[I"]
def wsX0_go : List Cond := .code yX0_go cX0_go 6 none :: ((wsX0_go_r1 ++ (wsX0_go_r2 ++ (wsX0_go_r3 ++ (wsX0_go_r4 ++ (wsX0_go_r5 ++ wsX0_go_r6))))) ++ wsX00 ++ wsX60 ++ wsX30 ++ wsX50 ++ wsX40)
def wsX1_init : List Cond := .code yX1_init cX1_init 5 none :: ([.methodLink RX1 1 objectInit, .instanceMethod objectInit, .code objectInit ⟨#[0xb1]⟩ 1 none, .fieldLink RX1 7 "RoofCourses$Change" "kind" "I", .fieldLink RX1 13 "RoofCourses$Change" "course" "LRoofCourses$Course;", .fieldLink RX1 17 "RoofCourses$Change" "heapNumber" "I", .fieldLink RX1 20 "RoofCourses$Change" "slates" "I"] ++ wsX10)
def wsX6_pop : List Cond := .code yX6_pop cX6_pop 2 (some (.object "RoofCourses$Course")) :: ([.fieldLink RX6 45 "RoofCourses$Roof" "size" "I", .fieldLink RX6 9 "RoofCourses$Roof" "left" "[I", .methodLink RX6 48 yX6_last, .instanceMethod yX6_last, .selects RX6 yX6_last yX6_last, .initialized RX6, .code yX6_last cX6_last 1 (some (.object "RoofCourses$Course")), .fieldLink RX6 17 "RoofCourses$Roof" "courses" "[LRoofCourses$Course;", .fieldLink RX6 22 "RoofCourses$Roof" "ground" "LRoofCourses$Course;", .methodLink RX6 56 yX6_addSlates, .static yX6_addSlates, .code yX6_addSlates cX6_addSlates 4 none, .fieldLink RX6 60 "RoofCourses$Course" "size" "I", .fieldLink RX6 61 "RoofCourses$Course" "heapOf" "[I"] ++ wsX60 ++ wsX30)
def wsX6_push : List Cond := .code yX6_push cX6_push 2 none :: ([.fieldLink RX6 45 "RoofCourses$Roof" "size" "I", .fieldLink RX6 17 "RoofCourses$Roof" "courses" "[LRoofCourses$Course;", .fieldLink RX6 9 "RoofCourses$Roof" "left" "[I", .methodLink RX6 56 yX6_addSlates, .static yX6_addSlates, .initialized RX6, .code yX6_addSlates cX6_addSlates 4 none, .fieldLink RX6 60 "RoofCourses$Course" "size" "I", .fieldLink RX6 61 "RoofCourses$Course" "heapOf" "[I"] ++ wsX60 ++ wsX30)
def wsX1_undoOn_r1 : List Cond := [Cond.fieldLink RX1 7 "RoofCourses$Change" "kind" "I", Cond.fieldLink RX1 13 "RoofCourses$Change" "course" "LRoofCourses$Course;", Cond.fieldLink RX1 33 "RoofCourses$Roof" "left" "[I", Cond.fieldLink RX1 17 "RoofCourses$Change" "heapNumber" "I", Cond.fieldLink RX1 20 "RoofCourses$Change" "slates" "I", Cond.methodLink RX1 23 yX6_pop, Cond.instanceMethod yX6_pop, Cond.selects RX6 yX6_pop yX6_pop, Cond.initialized RX6, Cond.code yX6_pop cX6_pop 2 (some (.object "RoofCourses$Course")), Cond.fieldLink RX6 45 "RoofCourses$Roof" "size" "I", Cond.fieldLink RX6 9 "RoofCourses$Roof" "left" "[I", Cond.methodLink RX6 48 yX6_last, Cond.instanceMethod yX6_last, Cond.selects RX6 yX6_last yX6_last, Cond.code yX6_last cX6_last 1 (some (.object "RoofCourses$Course")), Cond.fieldLink RX6 17 "RoofCourses$Roof" "courses" "[LRoofCourses$Course;", Cond.fieldLink RX6 22 "RoofCourses$Roof" "ground" "LRoofCourses$Course;", Cond.methodLink RX6 56 yX6_addSlates, Cond.static yX6_addSlates, Cond.code yX6_addSlates cX6_addSlates 4 none, Cond.fieldLink RX6 60 "RoofCourses$Course" "size" "I", Cond.fieldLink RX6 61 "RoofCourses$Course" "heapOf" "[I", Cond.methodLink RX1 29 yX6_push]
def wsX1_undoOn_r2 : List Cond := [Cond.instanceMethod yX6_push, Cond.selects RX6 yX6_push yX6_push, Cond.code yX6_push cX6_push 2 none]
def wsX1_undoOn : List Cond := .code yX1_undoOn cX1_undoOn 2 none :: ((wsX1_undoOn_r1 ++ wsX1_undoOn_r2) ++ wsX10 ++ wsX60 ++ wsX30)
def wsX2_init : List Cond := .code yX2_init cX2_init 1 none :: ([.methodLink RX2 3 objectInit, .instanceMethod objectInit, .code objectInit ⟨#[0xb1]⟩ 1 none, .classLink RX2 9 RX1, .fieldLink RX2 11 "RoofCourses$Changes" "kept" "[LRoofCourses$Change;"] ++ wsX20)
def wsX2_clear : List Cond := .code yX2_clear cX2_clear 1 none :: ([.fieldLink RX2 17 "RoofCourses$Changes" "size" "I"] ++ wsX20)
def wsX2_add : List Cond := .code yX2_add cX2_add 3 none :: ([.fieldLink RX2 17 "RoofCourses$Changes" "size" "I", .fieldLink RX2 11 "RoofCourses$Changes" "kept" "[LRoofCourses$Change;"] ++ wsX20)
def wsX2_takeLatest : List Cond := .code yX2_takeLatest cX2_takeLatest 1 (some (.object "RoofCourses$Change")) :: ([.fieldLink RX2 17 "RoofCourses$Changes" "size" "I", .fieldLink RX2 11 "RoofCourses$Changes" "kept" "[LRoofCourses$Change;"] ++ wsX20)
def wsX4_init : List Cond := .code yX4_init cX4_init 2 none :: ([.methodLink RX4 3 objectInit, .instanceMethod objectInit, .code objectInit ⟨#[0xb1]⟩ 1 none, .arrayClass .int, .fieldLink RX4 9 "RoofCourses$Layer" "rest" "[I", .fieldLink RX4 15 "RoofCourses$Layer" "plan" "LRoofCourses$Plan;"] ++ wsX40)
def wsX5_init : List Cond := .code yX5_init cX5_init 1 none :: ([.methodLink RX5 3 objectInit, .instanceMethod objectInit, .code objectInit ⟨#[0xb1]⟩ 1 none, .arrayClass .int, .fieldLink RX5 9 "RoofCourses$Plan" "length" "[I", .fieldLink RX5 15 "RoofCourses$Plan" "breadth" "[I", .fieldLink RX5 18 "RoofCourses$Plan" "slates" "[I"] ++ wsX50)
def wsX5_clear : List Cond := .code yX5_clear cX5_clear 1 none :: ([.fieldLink RX5 21 "RoofCourses$Plan" "heaps" "I", .fieldLink RX5 25 "RoofCourses$Plan" "high" "I", .fieldLink RX5 28 "RoofCourses$Plan" "wide" "I", .fieldLink RX5 31 "RoofCourses$Plan" "lap" "I", .fieldLink RX5 34 "RoofCourses$Plan" "breaking" "I", .fieldLink RX5 37 "RoofCourses$Plan" "hip" "I"] ++ wsX50)
def wsX5_copy : List Cond := .code yX5_copy cX5_copy 2 none :: ([.fieldLink RX5 9 "RoofCourses$Plan" "length" "[I", .methodLink RX5 40 arraycopyName, .native arraycopyName, .static arraycopyName, .initialized "java/lang/System", .fieldLink RX5 15 "RoofCourses$Plan" "breadth" "[I", .fieldLink RX5 18 "RoofCourses$Plan" "slates" "[I", .fieldLink RX5 21 "RoofCourses$Plan" "heaps" "I", .fieldLink RX5 25 "RoofCourses$Plan" "high" "I", .fieldLink RX5 28 "RoofCourses$Plan" "wide" "I", .fieldLink RX5 31 "RoofCourses$Plan" "lap" "I", .fieldLink RX5 34 "RoofCourses$Plan" "breaking" "I", .fieldLink RX5 37 "RoofCourses$Plan" "hip" "I"] ++ wsX50)
def wsX8_isWithin : List Cond := .code yX8_isWithin cX8_isWithin 3 (some .boolean) :: ([])
def wsX5_placeFor : List Cond := .code yX5_placeFor cX5_placeFor 4 (some .int) :: ([.fieldLink RX5 21 "RoofCourses$Plan" "heaps" "I", .fieldLink RX5 9 "RoofCourses$Plan" "length" "[I", .fieldLink RX5 15 "RoofCourses$Plan" "breadth" "[I"] ++ wsX50)
def wsX5_insertHeap : List Cond := .code yX5_insertHeap cX5_insertHeap 6 (some .boolean) :: ([.fieldLink RX5 21 "RoofCourses$Plan" "heaps" "I", .fieldLink RX5 9 "RoofCourses$Plan" "length" "[I", .fieldLink RX5 15 "RoofCourses$Plan" "breadth" "[I", .fieldLink RX5 18 "RoofCourses$Plan" "slates" "[I"] ++ wsX50)
def wsX5_takeSlates : List Cond := .code yX5_takeSlates cX5_takeSlates 5 (some .boolean) :: ([.fieldLink RX5 21 "RoofCourses$Plan" "heaps" "I", .fieldLink RX5 9 "RoofCourses$Plan" "length" "[I", .fieldLink RX5 15 "RoofCourses$Plan" "breadth" "[I", .fieldLink RX5 18 "RoofCourses$Plan" "slates" "[I", .static yX8_isWithin, .initialized RX8, .code yX8_isWithin cX8_isWithin 3 (some .boolean), .methodLink RX5 64 yX5_placeFor, .instanceMethod yX5_placeFor, .selects RX5 yX5_placeFor yX5_placeFor, .initialized RX5, .code yX5_placeFor cX5_placeFor 4 (some .int), .methodLink RX5 68 yX5_insertHeap, .instanceMethod yX5_insertHeap, .selects RX5 yX5_insertHeap yX5_insertHeap, .code yX5_insertHeap cX5_insertHeap 6 (some .boolean)] ++ wsX50)
def wsX5_takeRoof : List Cond := .code yX5_takeRoof cX5_takeRoof 3 (some .boolean) :: ([.fieldLink RX5 25 "RoofCourses$Plan" "high" "I", .fieldLink RX5 28 "RoofCourses$Plan" "wide" "I", .static yX8_isWithin, .initialized RX8, .code yX8_isWithin cX8_isWithin 3 (some .boolean)] ++ wsX50)
def wsX5_takeLap : List Cond := .code yX5_takeLap cX5_takeLap 3 (some .boolean) :: ([.fieldLink RX5 31 "RoofCourses$Plan" "lap" "I", .fieldLink RX5 34 "RoofCourses$Plan" "breaking" "I", .static yX8_isWithin, .initialized RX8, .code yX8_isWithin cX8_isWithin 3 (some .boolean)] ++ wsX50)
def wsX5_takeHip : List Cond := .code yX5_takeHip cX5_takeHip 2 (some .boolean) :: ([.fieldLink RX5 37 "RoofCourses$Plan" "hip" "I", .static yX8_isWithin, .initialized RX8, .code yX8_isWithin cX8_isWithin 3 (some .boolean)] ++ wsX50)
def wsX5_take_r1 : List Cond := [Cond.methodLink RX5 46 yX5_takeSlates, Cond.instanceMethod yX5_takeSlates, Cond.selects RX5 yX5_takeSlates yX5_takeSlates, Cond.initialized RX5, Cond.code yX5_takeSlates cX5_takeSlates 5 (some .boolean), Cond.fieldLink RX5 21 "RoofCourses$Plan" "heaps" "I", Cond.fieldLink RX5 9 "RoofCourses$Plan" "length" "[I", Cond.fieldLink RX5 15 "RoofCourses$Plan" "breadth" "[I", Cond.fieldLink RX5 18 "RoofCourses$Plan" "slates" "[I", Cond.static yX8_isWithin, Cond.initialized RX8, Cond.code yX8_isWithin cX8_isWithin 3 (some .boolean), Cond.methodLink RX5 64 yX5_placeFor, Cond.instanceMethod yX5_placeFor, Cond.selects RX5 yX5_placeFor yX5_placeFor, Cond.code yX5_placeFor cX5_placeFor 4 (some .int), Cond.methodLink RX5 68 yX5_insertHeap, Cond.instanceMethod yX5_insertHeap, Cond.selects RX5 yX5_insertHeap yX5_insertHeap, Cond.code yX5_insertHeap cX5_insertHeap 6 (some .boolean), Cond.methodLink RX5 50 yX5_takeRoof, Cond.instanceMethod yX5_takeRoof, Cond.selects RX5 yX5_takeRoof yX5_takeRoof, Cond.code yX5_takeRoof cX5_takeRoof 3 (some .boolean)]
def wsX5_take_r2 : List Cond := [Cond.fieldLink RX5 25 "RoofCourses$Plan" "high" "I", Cond.fieldLink RX5 28 "RoofCourses$Plan" "wide" "I", Cond.methodLink RX5 54 yX5_takeLap, Cond.instanceMethod yX5_takeLap, Cond.selects RX5 yX5_takeLap yX5_takeLap, Cond.code yX5_takeLap cX5_takeLap 3 (some .boolean), Cond.fieldLink RX5 31 "RoofCourses$Plan" "lap" "I", Cond.fieldLink RX5 34 "RoofCourses$Plan" "breaking" "I", Cond.methodLink RX5 57 yX5_takeHip, Cond.instanceMethod yX5_takeHip, Cond.selects RX5 yX5_takeHip yX5_takeHip, Cond.code yX5_takeHip cX5_takeHip 2 (some .boolean), Cond.fieldLink RX5 37 "RoofCourses$Plan" "hip" "I"]
def wsX5_take : List Cond := .code yX5_take cX5_take 5 (some .boolean) :: ((wsX5_take_r1 ++ wsX5_take_r2) ++ wsX50)
def wsX6_init : List Cond := .code yX6_init cX6_init 3 none :: ([.methodLink RX6 3 objectInit, .instanceMethod objectInit, .code objectInit ⟨#[0xb1]⟩ 1 none, .arrayClass .int, .fieldLink RX6 9 "RoofCourses$Roof" "left" "[I", .classLink RX6 15 RX3, .fieldLink RX6 17 "RoofCourses$Roof" "courses" "[LRoofCourses$Course;", .instantiable RX3 9, .initialized RX3, .fieldLink RX6 22 "RoofCourses$Roof" "ground" "LRoofCourses$Course;", .fieldLink RX6 26 "RoofCourses$Roof" "plan" "LRoofCourses$Plan;", .fieldLink RX6 30 "RoofCourses$Course" "length" "I", .instanceMethod yX3_init, .code yX3_init cX3_init 1 none, .methodLink RX3 3 objectInit, .fieldLink RX3 9 "RoofCourses$Course" "heapOf" "[I", .fieldLink RX3 15 "RoofCourses$Course" "edge" "[I"] ++ wsX60 ++ wsX30)
def wsX6_begin : List Cond := .code yX6_begin cX6_begin 1 none :: ([.fieldLink RX6 26 "RoofCourses$Roof" "plan" "LRoofCourses$Plan;", .fieldLink RX6 34 "RoofCourses$Plan" "slates" "[I", .fieldLink RX6 9 "RoofCourses$Roof" "left" "[I", .methodLink RX6 39 arraycopyName, .native arraycopyName, .static arraycopyName, .initialized "java/lang/System", .fieldLink RX6 45 "RoofCourses$Roof" "size" "I"] ++ wsX60 ++ wsX50)
def wsX6_isOpen : List Cond := .code yX6_isOpen cX6_isOpen 1 (some .boolean) :: ([.fieldLink RX6 45 "RoofCourses$Roof" "size" "I", .fieldLink RX6 26 "RoofCourses$Roof" "plan" "LRoofCourses$Plan;", .methodLink RX6 48 yX6_last, .instanceMethod yX6_last, .selects RX6 yX6_last yX6_last, .initialized RX6, .code yX6_last cX6_last 1 (some (.object "RoofCourses$Course")), .fieldLink RX6 17 "RoofCourses$Roof" "courses" "[LRoofCourses$Course;", .fieldLink RX6 22 "RoofCourses$Roof" "ground" "LRoofCourses$Course;", .methodLink RX6 52 yX5_isReadyBy, .instanceMethod yX5_isReadyBy, .selects RX5 yX5_isReadyBy yX5_isReadyBy, .initialized RX5, .code yX5_isReadyBy cX5_isReadyBy 2 (some .boolean), .fieldLink RX5 25 "RoofCourses$Plan" "high" "I", .methodLink RX5 77 yX3_head, .instanceMethod yX3_head, .selects RX3 yX3_head yX3_head, .initialized RX3, .code yX3_head cX3_head 1 (some .int), .fieldLink RX3 22 "RoofCourses$Course" "foot" "I", .fieldLink RX3 25 "RoofCourses$Course" "gauge" "I"] ++ wsX60 ++ wsX50 ++ wsX30)
def wsX6_laidOf : List Cond := .code yX6_laidOf cX6_laidOf 6 (some .int) :: ([.fieldLink RX6 45 "RoofCourses$Roof" "size" "I", .fieldLink RX6 17 "RoofCourses$Roof" "courses" "[LRoofCourses$Course;", .fieldLink RX6 60 "RoofCourses$Course" "size" "I", .fieldLink RX6 61 "RoofCourses$Course" "heapOf" "[I"] ++ wsX60 ++ wsX30)
def wsX6_lapHeldBy : List Cond := .code yX6_lapHeldBy cX6_lapHeldBy 2 (some .int) :: ([.fieldLink RX6 45 "RoofCourses$Roof" "size" "I", .fieldLink RX6 17 "RoofCourses$Roof" "courses" "[LRoofCourses$Course;", .fieldLink RX6 30 "RoofCourses$Course" "length" "I", .fieldLink RX6 64 "RoofCourses$Course" "gauge" "I"] ++ wsX60 ++ wsX30)
def wsX6_waste : List Cond := .code yX6_waste cX6_waste 3 (some .int) :: ([.fieldLink RX6 45 "RoofCourses$Roof" "size" "I", .fieldLink RX6 17 "RoofCourses$Roof" "courses" "[LRoofCourses$Course;", .fieldLink RX6 67 "RoofCourses$Course" "waste" "I"] ++ wsX60 ++ wsX30)
def wsX6_slatesLeft : List Cond := .code yX6_slatesLeft cX6_slatesLeft 3 (some .int) :: ([.fieldLink RX6 26 "RoofCourses$Roof" "plan" "LRoofCourses$Plan;", .fieldLink RX6 70 "RoofCourses$Plan" "heaps" "I", .fieldLink RX6 9 "RoofCourses$Roof" "left" "[I"] ++ wsX60 ++ wsX50)
def wsX7_init : List Cond := .code yX7_init cX7_init 1 none :: ([.methodLink RX7 3 objectInit, .instanceMethod objectInit, .code objectInit ⟨#[0xb1]⟩ 1 none, .arrayClass .char, .fieldLink RX7 9 "RoofCourses$Text" "letters" "[C", .arrayClass .int, .fieldLink RX7 15 "RoofCourses$Text" "numbers" "[I"] ++ wsX70)
def wsX7_append : List Cond := .code yX7_append cX7_append 2 (some .boolean) :: ([.fieldLink RX7 19 "RoofCourses$Text" "size" "I", .fieldLink RX7 9 "RoofCourses$Text" "letters" "[C"] ++ wsX70)
def wsX7_clear : List Cond := .code yX7_clear cX7_clear 1 none :: ([.fieldLink RX7 19 "RoofCourses$Text" "size" "I"] ++ wsX70)
def wsX7_letterHere : List Cond := .code yX7_letterHere cX7_letterHere 1 (some .char) :: ([.fieldLink RX7 28 "RoofCourses$Text" "at" "I", .fieldLink RX7 19 "RoofCourses$Text" "size" "I", .fieldLink RX7 9 "RoofCourses$Text" "letters" "[C"] ++ wsX70)
def wsX7_numbersOf : List Cond := .code yX7_numbersOf cX7_numbersOf 1 (some .int) :: ([])
def wsX7_isFigure : List Cond := .code yX7_isFigure cX7_isFigure 1 (some .boolean) :: ([])
def wsX7_readNumber : List Cond := .code yX7_readNumber cX7_readNumber 3 (some .int) :: ([.methodLink RX7 55 Lib.Math.max.name, .static Lib.Math.max.name, .initialized "java/lang/Math", .code Lib.Math.max.name Lib.Math.max.code 2 (some .int), .fieldLink RX7 28 "RoofCourses$Text" "at" "I", .methodLink RX7 35 yX7_letterHere, .instanceMethod yX7_letterHere, .selects RX7 yX7_letterHere yX7_letterHere, .initialized RX7, .code yX7_letterHere cX7_letterHere 1 (some .char), .fieldLink RX7 19 "RoofCourses$Text" "size" "I", .fieldLink RX7 9 "RoofCourses$Text" "letters" "[C", .methodLink RX7 51 yX7_isFigure, .static yX7_isFigure, .code yX7_isFigure cX7_isFigure 1 (some .boolean)] ++ wsX70)
def wsX7_readItem_r1 : List Cond := [Cond.fieldLink RX7 28 "RoofCourses$Text" "at" "I", Cond.fieldLink RX7 15 "RoofCourses$Text" "numbers" "[I", Cond.methodLink RX7 35 yX7_letterHere, Cond.instanceMethod yX7_letterHere, Cond.selects RX7 yX7_letterHere yX7_letterHere, Cond.initialized RX7, Cond.code yX7_letterHere cX7_letterHere 1 (some .char), Cond.fieldLink RX7 19 "RoofCourses$Text" "size" "I", Cond.fieldLink RX7 9 "RoofCourses$Text" "letters" "[C", Cond.methodLink RX7 39 yX7_numbersOf, Cond.static yX7_numbersOf, Cond.code yX7_numbersOf cX7_numbersOf 1 (some .int), Cond.methodLink RX7 43 yX7_readNumber, Cond.instanceMethod yX7_readNumber, Cond.selects RX7 yX7_readNumber yX7_readNumber, Cond.code yX7_readNumber cX7_readNumber 3 (some .int), Cond.methodLink RX7 55 Lib.Math.max.name, Cond.static Lib.Math.max.name, Cond.initialized "java/lang/Math", Cond.code Lib.Math.max.name Lib.Math.max.code 2 (some .int), Cond.methodLink RX7 51 yX7_isFigure, Cond.static yX7_isFigure, Cond.code yX7_isFigure cX7_isFigure 1 (some .boolean), Cond.methodLink RX7 47 yX5_take]
def wsX7_readItem_r2 : List Cond := [Cond.instanceMethod yX5_take, Cond.selects RX5 yX5_take yX5_take, Cond.initialized RX5, Cond.code yX5_take cX5_take 5 (some .boolean), Cond.methodLink RX5 46 yX5_takeSlates, Cond.instanceMethod yX5_takeSlates, Cond.selects RX5 yX5_takeSlates yX5_takeSlates, Cond.code yX5_takeSlates cX5_takeSlates 5 (some .boolean), Cond.fieldLink RX5 21 "RoofCourses$Plan" "heaps" "I", Cond.fieldLink RX5 9 "RoofCourses$Plan" "length" "[I", Cond.fieldLink RX5 15 "RoofCourses$Plan" "breadth" "[I", Cond.fieldLink RX5 18 "RoofCourses$Plan" "slates" "[I", Cond.static yX8_isWithin, Cond.initialized RX8, Cond.code yX8_isWithin cX8_isWithin 3 (some .boolean), Cond.methodLink RX5 64 yX5_placeFor, Cond.instanceMethod yX5_placeFor, Cond.selects RX5 yX5_placeFor yX5_placeFor, Cond.code yX5_placeFor cX5_placeFor 4 (some .int), Cond.methodLink RX5 68 yX5_insertHeap, Cond.instanceMethod yX5_insertHeap, Cond.selects RX5 yX5_insertHeap yX5_insertHeap, Cond.code yX5_insertHeap cX5_insertHeap 6 (some .boolean), Cond.methodLink RX5 50 yX5_takeRoof]
def wsX7_readItem_r3 : List Cond := [Cond.instanceMethod yX5_takeRoof, Cond.selects RX5 yX5_takeRoof yX5_takeRoof, Cond.code yX5_takeRoof cX5_takeRoof 3 (some .boolean), Cond.fieldLink RX5 25 "RoofCourses$Plan" "high" "I", Cond.fieldLink RX5 28 "RoofCourses$Plan" "wide" "I", Cond.methodLink RX5 54 yX5_takeLap, Cond.instanceMethod yX5_takeLap, Cond.selects RX5 yX5_takeLap yX5_takeLap, Cond.code yX5_takeLap cX5_takeLap 3 (some .boolean), Cond.fieldLink RX5 31 "RoofCourses$Plan" "lap" "I", Cond.fieldLink RX5 34 "RoofCourses$Plan" "breaking" "I", Cond.methodLink RX5 57 yX5_takeHip, Cond.instanceMethod yX5_takeHip, Cond.selects RX5 yX5_takeHip yX5_takeHip, Cond.code yX5_takeHip cX5_takeHip 2 (some .boolean), Cond.fieldLink RX5 37 "RoofCourses$Plan" "hip" "I"]
def wsX7_readItem : List Cond := .code yX7_readItem cX7_readItem 6 (some .boolean) :: ((wsX7_readItem_r1 ++ (wsX7_readItem_r2 ++ wsX7_readItem_r3)) ++ wsX70 ++ wsX50)
def wsX7_readInto_r1 : List Cond := [Cond.fieldLink RX7 28 "RoofCourses$Text" "at" "I", Cond.fieldLink RX7 19 "RoofCourses$Text" "size" "I", Cond.methodLink RX7 23 yX5_clear, Cond.instanceMethod yX5_clear, Cond.selects RX5 yX5_clear yX5_clear, Cond.initialized RX5, Cond.code yX5_clear cX5_clear 1 none, Cond.fieldLink RX5 21 "RoofCourses$Plan" "heaps" "I", Cond.fieldLink RX5 25 "RoofCourses$Plan" "high" "I", Cond.fieldLink RX5 28 "RoofCourses$Plan" "wide" "I", Cond.fieldLink RX5 31 "RoofCourses$Plan" "lap" "I", Cond.fieldLink RX5 34 "RoofCourses$Plan" "breaking" "I", Cond.fieldLink RX5 37 "RoofCourses$Plan" "hip" "I", Cond.methodLink RX7 31 yX7_readItem, Cond.instanceMethod yX7_readItem, Cond.selects RX7 yX7_readItem yX7_readItem, Cond.initialized RX7, Cond.code yX7_readItem cX7_readItem 6 (some .boolean), Cond.fieldLink RX7 15 "RoofCourses$Text" "numbers" "[I", Cond.methodLink RX7 35 yX7_letterHere, Cond.instanceMethod yX7_letterHere, Cond.selects RX7 yX7_letterHere yX7_letterHere, Cond.code yX7_letterHere cX7_letterHere 1 (some .char), Cond.fieldLink RX7 9 "RoofCourses$Text" "letters" "[C"]
def wsX7_readInto_r2 : List Cond := [Cond.methodLink RX7 39 yX7_numbersOf, Cond.static yX7_numbersOf, Cond.code yX7_numbersOf cX7_numbersOf 1 (some .int), Cond.methodLink RX7 43 yX7_readNumber, Cond.instanceMethod yX7_readNumber, Cond.selects RX7 yX7_readNumber yX7_readNumber, Cond.code yX7_readNumber cX7_readNumber 3 (some .int), Cond.methodLink RX7 55 Lib.Math.max.name, Cond.static Lib.Math.max.name, Cond.initialized "java/lang/Math", Cond.code Lib.Math.max.name Lib.Math.max.code 2 (some .int), Cond.methodLink RX7 51 yX7_isFigure, Cond.static yX7_isFigure, Cond.code yX7_isFigure cX7_isFigure 1 (some .boolean), Cond.methodLink RX7 47 yX5_take, Cond.instanceMethod yX5_take, Cond.selects RX5 yX5_take yX5_take, Cond.code yX5_take cX5_take 5 (some .boolean), Cond.methodLink RX5 46 yX5_takeSlates, Cond.instanceMethod yX5_takeSlates, Cond.selects RX5 yX5_takeSlates yX5_takeSlates, Cond.code yX5_takeSlates cX5_takeSlates 5 (some .boolean), Cond.fieldLink RX5 9 "RoofCourses$Plan" "length" "[I", Cond.fieldLink RX5 15 "RoofCourses$Plan" "breadth" "[I"]
def wsX7_readInto_r3 : List Cond := [Cond.fieldLink RX5 18 "RoofCourses$Plan" "slates" "[I", Cond.static yX8_isWithin, Cond.initialized RX8, Cond.code yX8_isWithin cX8_isWithin 3 (some .boolean), Cond.methodLink RX5 64 yX5_placeFor, Cond.instanceMethod yX5_placeFor, Cond.selects RX5 yX5_placeFor yX5_placeFor, Cond.code yX5_placeFor cX5_placeFor 4 (some .int), Cond.methodLink RX5 68 yX5_insertHeap, Cond.instanceMethod yX5_insertHeap, Cond.selects RX5 yX5_insertHeap yX5_insertHeap, Cond.code yX5_insertHeap cX5_insertHeap 6 (some .boolean), Cond.methodLink RX5 50 yX5_takeRoof, Cond.instanceMethod yX5_takeRoof, Cond.selects RX5 yX5_takeRoof yX5_takeRoof, Cond.code yX5_takeRoof cX5_takeRoof 3 (some .boolean), Cond.methodLink RX5 54 yX5_takeLap, Cond.instanceMethod yX5_takeLap, Cond.selects RX5 yX5_takeLap yX5_takeLap, Cond.code yX5_takeLap cX5_takeLap 3 (some .boolean), Cond.methodLink RX5 57 yX5_takeHip, Cond.instanceMethod yX5_takeHip, Cond.selects RX5 yX5_takeHip yX5_takeHip, Cond.code yX5_takeHip cX5_takeHip 2 (some .boolean)]
def wsX7_readInto : List Cond := .code yX7_readInto cX7_readInto 4 (some .int) :: ((wsX7_readInto_r1 ++ (wsX7_readInto_r2 ++ wsX7_readInto_r3)) ++ wsX70 ++ wsX50)
def wsJ0_coder_7d493 : List Cond := .code yJ0_coder_7d493 cJ0_coder_7d493 1 (some .byte) :: ([.fieldLink RJ0 38 "java/lang/String" "COMPACT_STRINGS" "Z", .fieldLink RJ0 15 "java/lang/String" "coder" "B"])
def wsJ0_length_8abf5 : List Cond := .code yJ0_length_8abf5 cJ0_length_8abf5 1 (some .int) :: ([.fieldLink RJ0 9 "java/lang/String" "value" "[B", .methodLink RJ0 335 yJ0_coder_7d493, .instanceMethod yJ0_coder_7d493, .selects RJ0 yJ0_coder_7d493 yJ0_coder_7d493, .initialized RJ0, .code yJ0_coder_7d493 cJ0_coder_7d493 1 (some .byte), .fieldLink RJ0 38 "java/lang/String" "COMPACT_STRINGS" "Z", .fieldLink RJ0 15 "java/lang/String" "coder" "B"])
def wsJ0_isLatin1_aae02 : List Cond := .code yJ0_isLatin1_aae02 cJ0_isLatin1_aae02 1 (some .boolean) :: ([.fieldLink RJ0 38 "java/lang/String" "COMPACT_STRINGS" "Z", .fieldLink RJ0 15 "java/lang/String" "coder" "B"])
def wsJ3_checkIndex_8e157 : List Cond := .code yJ3_checkIndex_8e157 cJ3_checkIndex_8e157 3 (some .int) :: ([])
def wsJ0_checkIndex_df160 : List Cond := .code yJ0_checkIndex_df160 cJ0_checkIndex_df160 2 none :: ([.fieldLink RJ0 1053 "jdk/internal/util/Preconditions" "SIOOBE_FORMATTER" "Ljava/util/function/BiFunction;", .methodLink RJ0 1059 yJ3_checkIndex_8e157, .static yJ3_checkIndex_8e157, .initialized RJ3, .code yJ3_checkIndex_8e157 cJ3_checkIndex_8e157 3 (some .int)])
def wsJ1_charAt_3b067 : List Cond := .code yJ1_charAt_3b067 cJ1_charAt_3b067 2 (some .char) :: ([.methodLink RJ1 9 yJ0_checkIndex_df160, .static yJ0_checkIndex_df160, .initialized RJ0, .code yJ0_checkIndex_df160 cJ0_checkIndex_df160 2 none, .fieldLink RJ0 1053 "jdk/internal/util/Preconditions" "SIOOBE_FORMATTER" "Ljava/util/function/BiFunction;", .methodLink RJ0 1059 yJ3_checkIndex_8e157, .static yJ3_checkIndex_8e157, .initialized RJ3, .code yJ3_checkIndex_8e157 cJ3_checkIndex_8e157 3 (some .int)])
def wsJ2_length_9d52b : List Cond := .code yJ2_length_9d52b cJ2_length_9d52b 1 (some .int) :: ([])
def wsJ2_checkIndex_2214a : List Cond := .code yJ2_checkIndex_2214a cJ2_checkIndex_2214a 2 none :: ([.methodLink RJ2 48 yJ2_length_9d52b, .static yJ2_length_9d52b, .initialized RJ2, .code yJ2_length_9d52b cJ2_length_9d52b 1 (some .int), .methodLink RJ2 414 yJ0_checkIndex_df160, .static yJ0_checkIndex_df160, .initialized RJ0, .code yJ0_checkIndex_df160 cJ0_checkIndex_df160 2 none, .fieldLink RJ0 1053 "jdk/internal/util/Preconditions" "SIOOBE_FORMATTER" "Ljava/util/function/BiFunction;", .methodLink RJ0 1059 yJ3_checkIndex_8e157, .static yJ3_checkIndex_8e157, .initialized RJ3, .code yJ3_checkIndex_8e157 cJ3_checkIndex_8e157 3 (some .int)])
def wsJ2_getChar_3b067 : List Cond := .code yJ2_getChar_3b067 cJ2_getChar_3b067 2 (some .char) :: ([.fieldLink RJ2 44 "java/lang/StringUTF16" "$assertionsDisabled" "Z", .fieldLink RJ2 59 "java/lang/StringUTF16" "HI_BYTE_SHIFT" "I", .fieldLink RJ2 63 "java/lang/StringUTF16" "LO_BYTE_SHIFT" "I", .methodLink RJ2 48 yJ2_length_9d52b, .static yJ2_length_9d52b, .initialized RJ2, .code yJ2_length_9d52b cJ2_length_9d52b 1 (some .int)])
def wsJ2_charAt_3b067 : List Cond := .code yJ2_charAt_3b067 cJ2_charAt_3b067 2 (some .char) :: ([.methodLink RJ2 67 yJ2_checkIndex_2214a, .static yJ2_checkIndex_2214a, .initialized RJ2, .code yJ2_checkIndex_2214a cJ2_checkIndex_2214a 2 none, .methodLink RJ2 48 yJ2_length_9d52b, .static yJ2_length_9d52b, .code yJ2_length_9d52b cJ2_length_9d52b 1 (some .int), .methodLink RJ2 414 yJ0_checkIndex_df160, .static yJ0_checkIndex_df160, .initialized RJ0, .code yJ0_checkIndex_df160 cJ0_checkIndex_df160 2 none, .fieldLink RJ0 1053 "jdk/internal/util/Preconditions" "SIOOBE_FORMATTER" "Ljava/util/function/BiFunction;", .methodLink RJ0 1059 yJ3_checkIndex_8e157, .static yJ3_checkIndex_8e157, .initialized RJ3, .code yJ3_checkIndex_8e157 cJ3_checkIndex_8e157 3 (some .int), .methodLink RJ2 71 yJ2_getChar_3b067, .static yJ2_getChar_3b067, .code yJ2_getChar_3b067 cJ2_getChar_3b067 2 (some .char), .fieldLink RJ2 44 "java/lang/StringUTF16" "$assertionsDisabled" "Z", .fieldLink RJ2 59 "java/lang/StringUTF16" "HI_BYTE_SHIFT" "I", .fieldLink RJ2 63 "java/lang/StringUTF16" "LO_BYTE_SHIFT" "I"])
def wsJ0_charAt_5068e_r1 : List Cond := [Cond.fieldLink RJ0 9 "java/lang/String" "value" "[B", Cond.methodLink RJ0 492 yJ0_isLatin1_aae02, Cond.instanceMethod yJ0_isLatin1_aae02, Cond.selects RJ0 yJ0_isLatin1_aae02 yJ0_isLatin1_aae02, Cond.initialized RJ0, Cond.code yJ0_isLatin1_aae02 cJ0_isLatin1_aae02 1 (some .boolean), Cond.fieldLink RJ0 38 "java/lang/String" "COMPACT_STRINGS" "Z", Cond.fieldLink RJ0 15 "java/lang/String" "coder" "B", Cond.methodLink RJ0 495 yJ1_charAt_3b067, Cond.static yJ1_charAt_3b067, Cond.initialized RJ1, Cond.code yJ1_charAt_3b067 cJ1_charAt_3b067 2 (some .char), Cond.methodLink RJ1 9 yJ0_checkIndex_df160, Cond.static yJ0_checkIndex_df160, Cond.code yJ0_checkIndex_df160 cJ0_checkIndex_df160 2 none, Cond.fieldLink RJ0 1053 "jdk/internal/util/Preconditions" "SIOOBE_FORMATTER" "Ljava/util/function/BiFunction;", Cond.methodLink RJ0 1059 yJ3_checkIndex_8e157, Cond.static yJ3_checkIndex_8e157, Cond.initialized RJ3, Cond.code yJ3_checkIndex_8e157 cJ3_checkIndex_8e157 3 (some .int), Cond.methodLink RJ0 498 yJ2_charAt_3b067, Cond.static yJ2_charAt_3b067, Cond.initialized RJ2, Cond.code yJ2_charAt_3b067 cJ2_charAt_3b067 2 (some .char)]
def wsJ0_charAt_5068e_r2 : List Cond := [Cond.methodLink RJ2 67 yJ2_checkIndex_2214a, Cond.static yJ2_checkIndex_2214a, Cond.code yJ2_checkIndex_2214a cJ2_checkIndex_2214a 2 none, Cond.methodLink RJ2 48 yJ2_length_9d52b, Cond.static yJ2_length_9d52b, Cond.code yJ2_length_9d52b cJ2_length_9d52b 1 (some .int), Cond.methodLink RJ2 414 yJ0_checkIndex_df160, Cond.methodLink RJ2 71 yJ2_getChar_3b067, Cond.static yJ2_getChar_3b067, Cond.code yJ2_getChar_3b067 cJ2_getChar_3b067 2 (some .char), Cond.fieldLink RJ2 44 "java/lang/StringUTF16" "$assertionsDisabled" "Z", Cond.fieldLink RJ2 59 "java/lang/StringUTF16" "HI_BYTE_SHIFT" "I", Cond.fieldLink RJ2 63 "java/lang/StringUTF16" "LO_BYTE_SHIFT" "I"]
def wsJ0_charAt_5068e : List Cond := .code yJ0_charAt_5068e cJ0_charAt_5068e 2 (some .char) :: ((wsJ0_charAt_5068e_r1 ++ wsJ0_charAt_5068e_r2))
def wsX8_init_r1 : List Cond := [Cond.methodLink RX8 1 objectInit, Cond.instanceMethod objectInit, Cond.code objectInit ⟨#[0xb1]⟩ 1 none, Cond.classLink RX8 7 RX7, Cond.instantiable RX7 4, Cond.initialized RX7, Cond.fieldLink RX8 10 "RoofCourses" "text" "LRoofCourses$Text;", Cond.classLink RX8 16 RX5, Cond.instantiable RX5 9, Cond.initialized RX5, Cond.fieldLink RX8 19 "RoofCourses" "plan" "LRoofCourses$Plan;", Cond.fieldLink RX8 23 "RoofCourses" "read" "LRoofCourses$Plan;", Cond.classLink RX8 26 RX4, Cond.instantiable RX4 2, Cond.initialized RX4, Cond.fieldLink RX8 31 "RoofCourses" "layer" "LRoofCourses$Layer;", Cond.classLink RX8 35 RX6, Cond.instantiable RX6 5, Cond.initialized RX6, Cond.fieldLink RX8 38 "RoofCourses" "roof" "LRoofCourses$Roof;", Cond.classLink RX8 42 RX0, Cond.instantiable RX0 10, Cond.initialized RX0, Cond.fieldLink RX8 47 "RoofCourses" "ahead" "LRoofCourses$Ahead;"]
def wsX8_init_r2 : List Cond := [Cond.classLink RX8 51 RX2, Cond.instantiable RX2 2, Cond.initialized RX2, Cond.fieldLink RX8 54 "RoofCourses" "changes" "LRoofCourses$Changes;", Cond.classLink RX8 58 RX3, Cond.instantiable RX3 9, Cond.initialized RX3, Cond.fieldLink RX8 61 "RoofCourses" "trial" "LRoofCourses$Course;", Cond.instanceMethod yX7_init, Cond.code yX7_init cX7_init 1 none, Cond.methodLink RX7 3 objectInit, Cond.arrayClass .char, Cond.fieldLink RX7 9 "RoofCourses$Text" "letters" "[C", Cond.arrayClass .int, Cond.fieldLink RX7 15 "RoofCourses$Text" "numbers" "[I", Cond.instanceMethod yX5_init, Cond.code yX5_init cX5_init 1 none, Cond.methodLink RX5 3 objectInit, Cond.fieldLink RX5 9 "RoofCourses$Plan" "length" "[I", Cond.fieldLink RX5 15 "RoofCourses$Plan" "breadth" "[I", Cond.fieldLink RX5 18 "RoofCourses$Plan" "slates" "[I", Cond.methodLink RX8 28 yX4_init, Cond.instanceMethod yX4_init, Cond.code yX4_init cX4_init 2 none]
def wsX8_init_r3 : List Cond := [Cond.methodLink RX4 3 objectInit, Cond.fieldLink RX4 9 "RoofCourses$Layer" "rest" "[I", Cond.fieldLink RX4 15 "RoofCourses$Layer" "plan" "LRoofCourses$Plan;", Cond.methodLink RX8 37 yX6_init, Cond.instanceMethod yX6_init, Cond.code yX6_init cX6_init 3 none, Cond.methodLink RX6 3 objectInit, Cond.fieldLink RX6 9 "RoofCourses$Roof" "left" "[I", Cond.classLink RX6 15 RX3, Cond.fieldLink RX6 17 "RoofCourses$Roof" "courses" "[LRoofCourses$Course;", Cond.fieldLink RX6 22 "RoofCourses$Roof" "ground" "LRoofCourses$Course;", Cond.fieldLink RX6 26 "RoofCourses$Roof" "plan" "LRoofCourses$Plan;", Cond.fieldLink RX6 30 "RoofCourses$Course" "length" "I", Cond.instanceMethod yX3_init, Cond.code yX3_init cX3_init 1 none, Cond.methodLink RX3 3 objectInit, Cond.fieldLink RX3 9 "RoofCourses$Course" "heapOf" "[I", Cond.fieldLink RX3 15 "RoofCourses$Course" "edge" "[I", Cond.methodLink RX8 44 yX0_init, Cond.instanceMethod yX0_init, Cond.code yX0_init cX0_init 4 none, Cond.methodLink RX0 3 objectInit, Cond.fieldLink RX0 9 "RoofCourses$Ahead" "left" "[I", Cond.classLink RX0 15 RX3]
def wsX8_init_r4 : List Cond := [Cond.fieldLink RX0 18 "RoofCourses$Ahead" "probe" "LRoofCourses$Course;", Cond.fieldLink RX0 22 "RoofCourses$Ahead" "even" "LRoofCourses$Course;", Cond.fieldLink RX0 25 "RoofCourses$Ahead" "odd" "LRoofCourses$Course;", Cond.fieldLink RX0 28 "RoofCourses$Ahead" "plan" "LRoofCourses$Plan;", Cond.fieldLink RX0 32 "RoofCourses$Ahead" "layer" "LRoofCourses$Layer;", Cond.fieldLink RX0 36 "RoofCourses$Ahead" "roof" "LRoofCourses$Roof;", Cond.instanceMethod yX2_init, Cond.code yX2_init cX2_init 1 none, Cond.methodLink RX2 3 objectInit, Cond.classLink RX2 9 RX1, Cond.fieldLink RX2 11 "RoofCourses$Changes" "kept" "[LRoofCourses$Change;", Cond.methodLink RX8 67 yJ0_length_8abf5, Cond.instanceMethod yJ0_length_8abf5, Cond.selects RJ0 yJ0_length_8abf5 yJ0_length_8abf5, Cond.initialized RJ0, Cond.code yJ0_length_8abf5 cJ0_length_8abf5 1 (some .int), Cond.fieldLink RJ0 9 "java/lang/String" "value" "[B", Cond.methodLink RJ0 335 yJ0_coder_7d493, Cond.instanceMethod yJ0_coder_7d493, Cond.selects RJ0 yJ0_coder_7d493 yJ0_coder_7d493, Cond.code yJ0_coder_7d493 cJ0_coder_7d493 1 (some .byte), Cond.fieldLink RJ0 38 "java/lang/String" "COMPACT_STRINGS" "Z", Cond.fieldLink RJ0 15 "java/lang/String" "coder" "B", Cond.methodLink RX8 73 yJ0_charAt_5068e]
def wsX8_init_r5 : List Cond := [Cond.instanceMethod yJ0_charAt_5068e, Cond.selects RJ0 yJ0_charAt_5068e yJ0_charAt_5068e, Cond.code yJ0_charAt_5068e cJ0_charAt_5068e 2 (some .char), Cond.methodLink RJ0 492 yJ0_isLatin1_aae02, Cond.instanceMethod yJ0_isLatin1_aae02, Cond.selects RJ0 yJ0_isLatin1_aae02 yJ0_isLatin1_aae02, Cond.code yJ0_isLatin1_aae02 cJ0_isLatin1_aae02 1 (some .boolean), Cond.methodLink RJ0 495 yJ1_charAt_3b067, Cond.static yJ1_charAt_3b067, Cond.initialized RJ1, Cond.code yJ1_charAt_3b067 cJ1_charAt_3b067 2 (some .char), Cond.methodLink RJ1 9 yJ0_checkIndex_df160, Cond.static yJ0_checkIndex_df160, Cond.code yJ0_checkIndex_df160 cJ0_checkIndex_df160 2 none, Cond.fieldLink RJ0 1053 "jdk/internal/util/Preconditions" "SIOOBE_FORMATTER" "Ljava/util/function/BiFunction;", Cond.methodLink RJ0 1059 yJ3_checkIndex_8e157, Cond.static yJ3_checkIndex_8e157, Cond.initialized RJ3, Cond.code yJ3_checkIndex_8e157 cJ3_checkIndex_8e157 3 (some .int), Cond.methodLink RJ0 498 yJ2_charAt_3b067, Cond.static yJ2_charAt_3b067, Cond.initialized RJ2, Cond.code yJ2_charAt_3b067 cJ2_charAt_3b067 2 (some .char), Cond.methodLink RJ2 67 yJ2_checkIndex_2214a]
def wsX8_init_r6 : List Cond := [Cond.static yJ2_checkIndex_2214a, Cond.code yJ2_checkIndex_2214a cJ2_checkIndex_2214a 2 none, Cond.methodLink RJ2 48 yJ2_length_9d52b, Cond.static yJ2_length_9d52b, Cond.code yJ2_length_9d52b cJ2_length_9d52b 1 (some .int), Cond.methodLink RJ2 414 yJ0_checkIndex_df160, Cond.methodLink RJ2 71 yJ2_getChar_3b067, Cond.static yJ2_getChar_3b067, Cond.code yJ2_getChar_3b067 cJ2_getChar_3b067 2 (some .char), Cond.fieldLink RJ2 44 "java/lang/StringUTF16" "$assertionsDisabled" "Z", Cond.fieldLink RJ2 59 "java/lang/StringUTF16" "HI_BYTE_SHIFT" "I", Cond.fieldLink RJ2 63 "java/lang/StringUTF16" "LO_BYTE_SHIFT" "I", Cond.methodLink RX8 77 yX7_append, Cond.instanceMethod yX7_append, Cond.selects RX7 yX7_append yX7_append, Cond.code yX7_append cX7_append 2 (some .boolean), Cond.fieldLink RX7 19 "RoofCourses$Text" "size" "I", Cond.methodLink RX8 81 yX7_readInto, Cond.instanceMethod yX7_readInto, Cond.selects RX7 yX7_readInto yX7_readInto, Cond.code yX7_readInto cX7_readInto 4 (some .int), Cond.fieldLink RX7 28 "RoofCourses$Text" "at" "I", Cond.methodLink RX7 23 yX5_clear, Cond.instanceMethod yX5_clear]
def wsX8_init_r7 : List Cond := [Cond.selects RX5 yX5_clear yX5_clear, Cond.code yX5_clear cX5_clear 1 none, Cond.fieldLink RX5 21 "RoofCourses$Plan" "heaps" "I", Cond.fieldLink RX5 25 "RoofCourses$Plan" "high" "I", Cond.fieldLink RX5 28 "RoofCourses$Plan" "wide" "I", Cond.fieldLink RX5 31 "RoofCourses$Plan" "lap" "I", Cond.fieldLink RX5 34 "RoofCourses$Plan" "breaking" "I", Cond.fieldLink RX5 37 "RoofCourses$Plan" "hip" "I", Cond.methodLink RX7 31 yX7_readItem, Cond.instanceMethod yX7_readItem, Cond.selects RX7 yX7_readItem yX7_readItem, Cond.code yX7_readItem cX7_readItem 6 (some .boolean), Cond.methodLink RX7 35 yX7_letterHere, Cond.instanceMethod yX7_letterHere, Cond.selects RX7 yX7_letterHere yX7_letterHere, Cond.code yX7_letterHere cX7_letterHere 1 (some .char), Cond.methodLink RX7 39 yX7_numbersOf, Cond.static yX7_numbersOf, Cond.code yX7_numbersOf cX7_numbersOf 1 (some .int), Cond.methodLink RX7 43 yX7_readNumber, Cond.instanceMethod yX7_readNumber, Cond.selects RX7 yX7_readNumber yX7_readNumber, Cond.code yX7_readNumber cX7_readNumber 3 (some .int), Cond.methodLink RX7 55 Lib.Math.max.name]
def wsX8_init_r8 : List Cond := [Cond.static Lib.Math.max.name, Cond.initialized "java/lang/Math", Cond.code Lib.Math.max.name Lib.Math.max.code 2 (some .int), Cond.methodLink RX7 51 yX7_isFigure, Cond.static yX7_isFigure, Cond.code yX7_isFigure cX7_isFigure 1 (some .boolean), Cond.methodLink RX7 47 yX5_take, Cond.instanceMethod yX5_take, Cond.selects RX5 yX5_take yX5_take, Cond.code yX5_take cX5_take 5 (some .boolean), Cond.methodLink RX5 46 yX5_takeSlates, Cond.instanceMethod yX5_takeSlates, Cond.selects RX5 yX5_takeSlates yX5_takeSlates, Cond.code yX5_takeSlates cX5_takeSlates 5 (some .boolean), Cond.static yX8_isWithin, Cond.initialized RX8, Cond.code yX8_isWithin cX8_isWithin 3 (some .boolean), Cond.methodLink RX5 64 yX5_placeFor, Cond.instanceMethod yX5_placeFor, Cond.selects RX5 yX5_placeFor yX5_placeFor, Cond.code yX5_placeFor cX5_placeFor 4 (some .int), Cond.methodLink RX5 68 yX5_insertHeap, Cond.instanceMethod yX5_insertHeap, Cond.selects RX5 yX5_insertHeap yX5_insertHeap]
def wsX8_init_r9 : List Cond := [Cond.code yX5_insertHeap cX5_insertHeap 6 (some .boolean), Cond.methodLink RX5 50 yX5_takeRoof, Cond.instanceMethod yX5_takeRoof, Cond.selects RX5 yX5_takeRoof yX5_takeRoof, Cond.code yX5_takeRoof cX5_takeRoof 3 (some .boolean), Cond.methodLink RX5 54 yX5_takeLap, Cond.instanceMethod yX5_takeLap, Cond.selects RX5 yX5_takeLap yX5_takeLap, Cond.code yX5_takeLap cX5_takeLap 3 (some .boolean), Cond.methodLink RX5 57 yX5_takeHip, Cond.instanceMethod yX5_takeHip, Cond.selects RX5 yX5_takeHip yX5_takeHip, Cond.code yX5_takeHip cX5_takeHip 2 (some .boolean), Cond.methodLink RX8 85 yX7_clear, Cond.instanceMethod yX7_clear, Cond.selects RX7 yX7_clear yX7_clear, Cond.code yX7_clear cX7_clear 1 none, Cond.methodLink RX8 88 yX6_begin, Cond.instanceMethod yX6_begin, Cond.selects RX6 yX6_begin yX6_begin, Cond.code yX6_begin cX6_begin 1 none, Cond.fieldLink RX6 34 "RoofCourses$Plan" "slates" "[I", Cond.methodLink RX6 39 arraycopyName, Cond.native arraycopyName]
def wsX8_init_r10 : List Cond := [Cond.static arraycopyName, Cond.initialized "java/lang/System", Cond.fieldLink RX6 45 "RoofCourses$Roof" "size" "I"]
def wsX8_init : List Cond := .code yX8_init cX8_init 2 none :: ((wsX8_init_r1 ++ (wsX8_init_r2 ++ (wsX8_init_r3 ++ (wsX8_init_r4 ++ (wsX8_init_r5 ++ (wsX8_init_r6 ++ (wsX8_init_r7 ++ (wsX8_init_r8 ++ (wsX8_init_r9 ++ wsX8_init_r10))))))))) ++ wsX70 ++ wsX80 ++ wsX50 ++ wsX40 ++ wsX60 ++ wsX00 ++ wsX20 ++ wsX30)
def wsX8_write : List Cond := .code yX8_write cX8_write 2 (some .int) :: ([.fieldLink RX8 10 "RoofCourses" "text" "LRoofCourses$Text;", .fieldLink RX8 95 "RoofCourses$Text" "size" "I", .methodLink RX8 91 yX8_isWithin, .static yX8_isWithin, .initialized RX8, .code yX8_isWithin cX8_isWithin 3 (some .boolean), .methodLink RX8 77 yX7_append, .instanceMethod yX7_append, .selects RX7 yX7_append yX7_append, .initialized RX7, .code yX7_append cX7_append 2 (some .boolean), .fieldLink RX7 19 "RoofCourses$Text" "size" "I", .fieldLink RX7 9 "RoofCourses$Text" "letters" "[C"] ++ wsX80 ++ wsX70)
def wsX8_wipe : List Cond := .code yX8_wipe cX8_wipe 2 (some .int) :: ([.fieldLink RX8 10 "RoofCourses" "text" "LRoofCourses$Text;", .fieldLink RX8 95 "RoofCourses$Text" "size" "I", .methodLink RX8 85 yX7_clear, .instanceMethod yX7_clear, .selects RX7 yX7_clear yX7_clear, .initialized RX7, .code yX7_clear cX7_clear 1 none, .fieldLink RX7 19 "RoofCourses$Text" "size" "I"] ++ wsX80 ++ wsX70)
def wsX8_fault_r1 : List Cond := [Cond.fieldLink RX8 10 "RoofCourses" "text" "LRoofCourses$Text;", Cond.fieldLink RX8 23 "RoofCourses" "read" "LRoofCourses$Plan;", Cond.methodLink RX8 81 yX7_readInto, Cond.instanceMethod yX7_readInto, Cond.selects RX7 yX7_readInto yX7_readInto, Cond.initialized RX7, Cond.code yX7_readInto cX7_readInto 4 (some .int), Cond.fieldLink RX7 28 "RoofCourses$Text" "at" "I", Cond.fieldLink RX7 19 "RoofCourses$Text" "size" "I", Cond.methodLink RX7 23 yX5_clear, Cond.instanceMethod yX5_clear, Cond.selects RX5 yX5_clear yX5_clear, Cond.initialized RX5, Cond.code yX5_clear cX5_clear 1 none, Cond.fieldLink RX5 21 "RoofCourses$Plan" "heaps" "I", Cond.fieldLink RX5 25 "RoofCourses$Plan" "high" "I", Cond.fieldLink RX5 28 "RoofCourses$Plan" "wide" "I", Cond.fieldLink RX5 31 "RoofCourses$Plan" "lap" "I", Cond.fieldLink RX5 34 "RoofCourses$Plan" "breaking" "I", Cond.fieldLink RX5 37 "RoofCourses$Plan" "hip" "I", Cond.methodLink RX7 31 yX7_readItem, Cond.instanceMethod yX7_readItem, Cond.selects RX7 yX7_readItem yX7_readItem, Cond.code yX7_readItem cX7_readItem 6 (some .boolean)]
def wsX8_fault_r2 : List Cond := [Cond.fieldLink RX7 15 "RoofCourses$Text" "numbers" "[I", Cond.methodLink RX7 35 yX7_letterHere, Cond.instanceMethod yX7_letterHere, Cond.selects RX7 yX7_letterHere yX7_letterHere, Cond.code yX7_letterHere cX7_letterHere 1 (some .char), Cond.fieldLink RX7 9 "RoofCourses$Text" "letters" "[C", Cond.methodLink RX7 39 yX7_numbersOf, Cond.static yX7_numbersOf, Cond.code yX7_numbersOf cX7_numbersOf 1 (some .int), Cond.methodLink RX7 43 yX7_readNumber, Cond.instanceMethod yX7_readNumber, Cond.selects RX7 yX7_readNumber yX7_readNumber, Cond.code yX7_readNumber cX7_readNumber 3 (some .int), Cond.methodLink RX7 55 Lib.Math.max.name, Cond.static Lib.Math.max.name, Cond.initialized "java/lang/Math", Cond.code Lib.Math.max.name Lib.Math.max.code 2 (some .int), Cond.methodLink RX7 51 yX7_isFigure, Cond.static yX7_isFigure, Cond.code yX7_isFigure cX7_isFigure 1 (some .boolean), Cond.methodLink RX7 47 yX5_take, Cond.instanceMethod yX5_take, Cond.selects RX5 yX5_take yX5_take, Cond.code yX5_take cX5_take 5 (some .boolean)]
def wsX8_fault_r3 : List Cond := [Cond.methodLink RX5 46 yX5_takeSlates, Cond.instanceMethod yX5_takeSlates, Cond.selects RX5 yX5_takeSlates yX5_takeSlates, Cond.code yX5_takeSlates cX5_takeSlates 5 (some .boolean), Cond.fieldLink RX5 9 "RoofCourses$Plan" "length" "[I", Cond.fieldLink RX5 15 "RoofCourses$Plan" "breadth" "[I", Cond.fieldLink RX5 18 "RoofCourses$Plan" "slates" "[I", Cond.static yX8_isWithin, Cond.initialized RX8, Cond.code yX8_isWithin cX8_isWithin 3 (some .boolean), Cond.methodLink RX5 64 yX5_placeFor, Cond.instanceMethod yX5_placeFor, Cond.selects RX5 yX5_placeFor yX5_placeFor, Cond.code yX5_placeFor cX5_placeFor 4 (some .int), Cond.methodLink RX5 68 yX5_insertHeap, Cond.instanceMethod yX5_insertHeap, Cond.selects RX5 yX5_insertHeap yX5_insertHeap, Cond.code yX5_insertHeap cX5_insertHeap 6 (some .boolean), Cond.methodLink RX5 50 yX5_takeRoof, Cond.instanceMethod yX5_takeRoof, Cond.selects RX5 yX5_takeRoof yX5_takeRoof, Cond.code yX5_takeRoof cX5_takeRoof 3 (some .boolean), Cond.methodLink RX5 54 yX5_takeLap, Cond.instanceMethod yX5_takeLap]
def wsX8_fault_r4 : List Cond := [Cond.selects RX5 yX5_takeLap yX5_takeLap, Cond.code yX5_takeLap cX5_takeLap 3 (some .boolean), Cond.methodLink RX5 57 yX5_takeHip, Cond.instanceMethod yX5_takeHip, Cond.selects RX5 yX5_takeHip yX5_takeHip, Cond.code yX5_takeHip cX5_takeHip 2 (some .boolean)]
def wsX8_fault : List Cond := .code yX8_fault cX8_fault 1 (some .int) :: ((wsX8_fault_r1 ++ (wsX8_fault_r2 ++ (wsX8_fault_r3 ++ wsX8_fault_r4))) ++ wsX80 ++ wsX70 ++ wsX50)
def wsX8_lay_r1 : List Cond := [Cond.fieldLink RX8 10 "RoofCourses" "text" "LRoofCourses$Text;", Cond.fieldLink RX8 23 "RoofCourses" "read" "LRoofCourses$Plan;", Cond.fieldLink RX8 99 "RoofCourses$Plan" "heaps" "I", Cond.fieldLink RX8 19 "RoofCourses" "plan" "LRoofCourses$Plan;", Cond.fieldLink RX8 38 "RoofCourses" "roof" "LRoofCourses$Roof;", Cond.fieldLink RX8 54 "RoofCourses" "changes" "LRoofCourses$Changes;", Cond.methodLink RX8 81 yX7_readInto, Cond.instanceMethod yX7_readInto, Cond.selects RX7 yX7_readInto yX7_readInto, Cond.initialized RX7, Cond.code yX7_readInto cX7_readInto 4 (some .int), Cond.fieldLink RX7 28 "RoofCourses$Text" "at" "I", Cond.fieldLink RX7 19 "RoofCourses$Text" "size" "I", Cond.methodLink RX7 23 yX5_clear, Cond.instanceMethod yX5_clear, Cond.selects RX5 yX5_clear yX5_clear, Cond.initialized RX5, Cond.code yX5_clear cX5_clear 1 none, Cond.fieldLink RX5 21 "RoofCourses$Plan" "heaps" "I", Cond.fieldLink RX5 25 "RoofCourses$Plan" "high" "I", Cond.fieldLink RX5 28 "RoofCourses$Plan" "wide" "I", Cond.fieldLink RX5 31 "RoofCourses$Plan" "lap" "I", Cond.fieldLink RX5 34 "RoofCourses$Plan" "breaking" "I", Cond.fieldLink RX5 37 "RoofCourses$Plan" "hip" "I"]
def wsX8_lay_r2 : List Cond := [Cond.methodLink RX7 31 yX7_readItem, Cond.instanceMethod yX7_readItem, Cond.selects RX7 yX7_readItem yX7_readItem, Cond.code yX7_readItem cX7_readItem 6 (some .boolean), Cond.fieldLink RX7 15 "RoofCourses$Text" "numbers" "[I", Cond.methodLink RX7 35 yX7_letterHere, Cond.instanceMethod yX7_letterHere, Cond.selects RX7 yX7_letterHere yX7_letterHere, Cond.code yX7_letterHere cX7_letterHere 1 (some .char), Cond.fieldLink RX7 9 "RoofCourses$Text" "letters" "[C", Cond.methodLink RX7 39 yX7_numbersOf, Cond.static yX7_numbersOf, Cond.code yX7_numbersOf cX7_numbersOf 1 (some .int), Cond.methodLink RX7 43 yX7_readNumber, Cond.instanceMethod yX7_readNumber, Cond.selects RX7 yX7_readNumber yX7_readNumber, Cond.code yX7_readNumber cX7_readNumber 3 (some .int), Cond.methodLink RX7 55 Lib.Math.max.name, Cond.static Lib.Math.max.name, Cond.initialized "java/lang/Math", Cond.code Lib.Math.max.name Lib.Math.max.code 2 (some .int), Cond.methodLink RX7 51 yX7_isFigure, Cond.static yX7_isFigure, Cond.code yX7_isFigure cX7_isFigure 1 (some .boolean)]
def wsX8_lay_r3 : List Cond := [Cond.methodLink RX7 47 yX5_take, Cond.instanceMethod yX5_take, Cond.selects RX5 yX5_take yX5_take, Cond.code yX5_take cX5_take 5 (some .boolean), Cond.methodLink RX5 46 yX5_takeSlates, Cond.instanceMethod yX5_takeSlates, Cond.selects RX5 yX5_takeSlates yX5_takeSlates, Cond.code yX5_takeSlates cX5_takeSlates 5 (some .boolean), Cond.fieldLink RX5 9 "RoofCourses$Plan" "length" "[I", Cond.fieldLink RX5 15 "RoofCourses$Plan" "breadth" "[I", Cond.fieldLink RX5 18 "RoofCourses$Plan" "slates" "[I", Cond.static yX8_isWithin, Cond.initialized RX8, Cond.code yX8_isWithin cX8_isWithin 3 (some .boolean), Cond.methodLink RX5 64 yX5_placeFor, Cond.instanceMethod yX5_placeFor, Cond.selects RX5 yX5_placeFor yX5_placeFor, Cond.code yX5_placeFor cX5_placeFor 4 (some .int), Cond.methodLink RX5 68 yX5_insertHeap, Cond.instanceMethod yX5_insertHeap, Cond.selects RX5 yX5_insertHeap yX5_insertHeap, Cond.code yX5_insertHeap cX5_insertHeap 6 (some .boolean), Cond.methodLink RX5 50 yX5_takeRoof, Cond.instanceMethod yX5_takeRoof]
def wsX8_lay_r4 : List Cond := [Cond.selects RX5 yX5_takeRoof yX5_takeRoof, Cond.code yX5_takeRoof cX5_takeRoof 3 (some .boolean), Cond.methodLink RX5 54 yX5_takeLap, Cond.instanceMethod yX5_takeLap, Cond.selects RX5 yX5_takeLap yX5_takeLap, Cond.code yX5_takeLap cX5_takeLap 3 (some .boolean), Cond.methodLink RX5 57 yX5_takeHip, Cond.instanceMethod yX5_takeHip, Cond.selects RX5 yX5_takeHip yX5_takeHip, Cond.code yX5_takeHip cX5_takeHip 2 (some .boolean), Cond.methodLink RX8 102 yX5_copy, Cond.instanceMethod yX5_copy, Cond.selects RX5 yX5_copy yX5_copy, Cond.code yX5_copy cX5_copy 2 none, Cond.methodLink RX5 40 arraycopyName, Cond.native arraycopyName, Cond.static arraycopyName, Cond.initialized "java/lang/System", Cond.methodLink RX8 88 yX6_begin, Cond.instanceMethod yX6_begin, Cond.selects RX6 yX6_begin yX6_begin, Cond.initialized RX6, Cond.code yX6_begin cX6_begin 1 none, Cond.fieldLink RX6 26 "RoofCourses$Roof" "plan" "LRoofCourses$Plan;"]
def wsX8_lay_r5 : List Cond := [Cond.fieldLink RX6 34 "RoofCourses$Plan" "slates" "[I", Cond.fieldLink RX6 9 "RoofCourses$Roof" "left" "[I", Cond.methodLink RX6 39 arraycopyName, Cond.fieldLink RX6 45 "RoofCourses$Roof" "size" "I", Cond.methodLink RX8 105 yX2_clear, Cond.instanceMethod yX2_clear, Cond.selects RX2 yX2_clear yX2_clear, Cond.initialized RX2, Cond.code yX2_clear cX2_clear 1 none, Cond.fieldLink RX2 17 "RoofCourses$Changes" "size" "I"]
def wsX8_lay : List Cond := .code yX8_lay cX8_lay 1 (some .int) :: ((wsX8_lay_r1 ++ (wsX8_lay_r2 ++ (wsX8_lay_r3 ++ (wsX8_lay_r4 ++ wsX8_lay_r5)))) ++ wsX80 ++ wsX50 ++ wsX70 ++ wsX60 ++ wsX20)
def wsX8_fillTrial_r1 : List Cond := [Cond.fieldLink RX8 38 "RoofCourses" "roof" "LRoofCourses$Roof;", Cond.fieldLink RX8 164 "RoofCourses$Course" "length" "I", Cond.fieldLink RX8 31 "RoofCourses" "layer" "LRoofCourses$Layer;", Cond.fieldLink RX8 61 "RoofCourses" "trial" "LRoofCourses$Course;", Cond.fieldLink RX8 132 "RoofCourses$Roof" "left" "[I", Cond.methodLink RX8 200 yX6_last, Cond.instanceMethod yX6_last, Cond.selects RX6 yX6_last yX6_last, Cond.initialized RX6, Cond.code yX6_last cX6_last 1 (some (.object "RoofCourses$Course")), Cond.fieldLink RX6 45 "RoofCourses$Roof" "size" "I", Cond.fieldLink RX6 17 "RoofCourses$Roof" "courses" "[LRoofCourses$Course;", Cond.fieldLink RX6 22 "RoofCourses$Roof" "ground" "LRoofCourses$Course;", Cond.methodLink RX8 196 yX6_isOpen, Cond.instanceMethod yX6_isOpen, Cond.selects RX6 yX6_isOpen yX6_isOpen, Cond.code yX6_isOpen cX6_isOpen 1 (some .boolean), Cond.fieldLink RX6 26 "RoofCourses$Roof" "plan" "LRoofCourses$Plan;", Cond.methodLink RX6 48 yX6_last, Cond.methodLink RX6 52 yX5_isReadyBy, Cond.instanceMethod yX5_isReadyBy, Cond.selects RX5 yX5_isReadyBy yX5_isReadyBy, Cond.initialized RX5, Cond.code yX5_isReadyBy cX5_isReadyBy 2 (some .boolean)]
def wsX8_fillTrial_r2 : List Cond := [Cond.fieldLink RX5 25 "RoofCourses$Plan" "high" "I", Cond.methodLink RX5 77 yX3_head, Cond.instanceMethod yX3_head, Cond.selects RX3 yX3_head yX3_head, Cond.initialized RX3, Cond.code yX3_head cX3_head 1 (some .int), Cond.fieldLink RX3 22 "RoofCourses$Course" "foot" "I", Cond.fieldLink RX3 25 "RoofCourses$Course" "gauge" "I", Cond.methodLink RX8 246 yX4_fill, Cond.instanceMethod yX4_fill, Cond.selects RX4 yX4_fill yX4_fill, Cond.initialized RX4, Cond.code yX4_fill cX4_fill 9 (some .boolean), Cond.fieldLink RX4 9 "RoofCourses$Layer" "rest" "[I", Cond.methodLink RX4 19 arraycopyName, Cond.native arraycopyName, Cond.static arraycopyName, Cond.initialized "java/lang/System", Cond.fieldLink RX4 15 "RoofCourses$Layer" "plan" "LRoofCourses$Plan;", Cond.fieldLink RX4 44 "RoofCourses$Course" "size" "I", Cond.fieldLink RX4 55 "RoofCourses$Plan" "breadth" "[I", Cond.fieldLink RX4 58 "RoofCourses$Course" "room" "I", Cond.methodLink RX4 25 yX3_head, Cond.methodLink RX4 31 yX5_gaugeOf]
def wsX8_fillTrial_r3 : List Cond := [Cond.instanceMethod yX5_gaugeOf, Cond.selects RX5 yX5_gaugeOf yX5_gaugeOf, Cond.code yX5_gaugeOf cX5_gaugeOf 2 (some .int), Cond.fieldLink RX5 31 "RoofCourses$Plan" "lap" "I", Cond.methodLink RX4 37 yX5_roomAt, Cond.instanceMethod yX5_roomAt, Cond.selects RX5 yX5_roomAt yX5_roomAt, Cond.code yX5_roomAt cX5_roomAt 2 (some .int), Cond.fieldLink RX5 28 "RoofCourses$Plan" "wide" "I", Cond.fieldLink RX5 37 "RoofCourses$Plan" "hip" "I", Cond.methodLink RX5 72 Lib.Math.max.name, Cond.static Lib.Math.max.name, Cond.initialized "java/lang/Math", Cond.code Lib.Math.max.name Lib.Math.max.code 2 (some .int), Cond.methodLink RX4 40 yX3_begin, Cond.instanceMethod yX3_begin, Cond.selects RX3 yX3_begin yX3_begin, Cond.code yX3_begin cX3_begin 5 none, Cond.fieldLink RX3 18 "RoofCourses$Course" "length" "I", Cond.fieldLink RX3 28 "RoofCourses$Course" "room" "I", Cond.fieldLink RX3 31 "RoofCourses$Course" "size" "I", Cond.fieldLink RX3 34 "RoofCourses$Course" "waste" "I", Cond.fieldLink RX3 37 "RoofCourses$Course" "cut" "I", Cond.methodLink RX4 48 yX3_startOf]
def wsX8_fillTrial_r4 : List Cond := [Cond.instanceMethod yX3_startOf, Cond.selects RX3 yX3_startOf yX3_startOf, Cond.code yX3_startOf cX3_startOf 2 (some .int), Cond.fieldLink RX3 15 "RoofCourses$Course" "edge" "[I", Cond.methodLink RX4 51 yX4_endingAt, Cond.instanceMethod yX4_endingAt, Cond.selects RX4 yX4_endingAt yX4_endingAt, Cond.code yX4_endingAt cX4_endingAt 4 (some .int), Cond.fieldLink RX4 86 "RoofCourses$Plan" "heaps" "I", Cond.methodLink RX4 89 yX4_serves, Cond.instanceMethod yX4_serves, Cond.selects RX4 yX4_serves yX4_serves, Cond.code yX4_serves cX4_serves 3 (some .boolean), Cond.fieldLink RX4 81 "RoofCourses$Plan" "length" "[I", Cond.fieldLink RX4 84 "RoofCourses$Course" "length" "I", Cond.methodLink RX4 61 yX3_put, Cond.instanceMethod yX3_put, Cond.selects RX3 yX3_put yX3_put, Cond.code yX3_put cX3_put 4 none, Cond.fieldLink RX3 9 "RoofCourses$Course" "heapOf" "[I", Cond.methodLink RX3 40 yX3_startOf, Cond.methodLink RX4 65 yX4_putWithJoint, Cond.instanceMethod yX4_putWithJoint, Cond.selects RX4 yX4_putWithJoint yX4_putWithJoint]
def wsX8_fillTrial_r5 : List Cond := [Cond.code yX4_putWithJoint cX4_putWithJoint 7 (some .boolean), Cond.methodLink RX4 69 yX4_brokenAt, Cond.instanceMethod yX4_brokenAt, Cond.selects RX4 yX4_brokenAt yX4_brokenAt, Cond.code yX4_brokenAt cX4_brokenAt 5 (some .int), Cond.fieldLink RX4 93 "RoofCourses$Plan" "breaking" "I", Cond.methodLink RX4 96 yX3_isBrokenAt, Cond.instanceMethod yX3_isBrokenAt, Cond.selects RX3 yX3_isBrokenAt yX3_isBrokenAt, Cond.code yX3_isBrokenAt cX3_isBrokenAt 4 (some .boolean), Cond.methodLink RX3 54 Lib.Math.abs.name, Cond.static Lib.Math.abs.name, Cond.code Lib.Math.abs.name Lib.Math.abs.code 1 (some .int), Cond.methodLink RX3 50 yX3_joints, Cond.instanceMethod yX3_joints, Cond.selects RX3 yX3_joints yX3_joints, Cond.code yX3_joints cX3_joints 1 (some .int), Cond.methodLink RX3 44 Lib.Math.max.name, Cond.methodLink RX4 73 yX4_broadestFor, Cond.instanceMethod yX4_broadestFor, Cond.selects RX4 yX4_broadestFor yX4_broadestFor, Cond.code yX4_broadestFor cX4_broadestFor 3 (some .int), Cond.methodLink RX4 77 yX4_cutAt, Cond.instanceMethod yX4_cutAt]
def wsX8_fillTrial_r6 : List Cond := [Cond.selects RX4 yX4_cutAt yX4_cutAt, Cond.code yX4_cutAt cX4_cutAt 5 (some .int)]
def wsX8_fillTrial : List Cond := .code yX8_fillTrial cX8_fillTrial 3 (some .boolean) :: ((wsX8_fillTrial_r1 ++ (wsX8_fillTrial_r2 ++ (wsX8_fillTrial_r3 ++ (wsX8_fillTrial_r4 ++ (wsX8_fillTrial_r5 ++ wsX8_fillTrial_r6))))) ++ wsX80 ++ wsX30 ++ wsX60 ++ wsX50 ++ wsX40)
def wsX8_course_r1 : List Cond := [Cond.fieldLink RX8 61 "RoofCourses" "trial" "LRoofCourses$Course;", Cond.classLink RX8 58 RX3, Cond.instantiable RX3 9, Cond.initialized RX3, Cond.fieldLink RX8 38 "RoofCourses" "roof" "LRoofCourses$Roof;", Cond.fieldLink RX8 54 "RoofCourses" "changes" "LRoofCourses$Changes;", Cond.classLink RX8 114 RX1, Cond.instantiable RX1 4, Cond.initialized RX1, Cond.fieldLink RX8 123 "RoofCourses$Course" "size" "I", Cond.methodLink RX8 91 yX8_isWithin, Cond.static yX8_isWithin, Cond.initialized RX8, Cond.code yX8_isWithin cX8_isWithin 3 (some .boolean), Cond.methodLink RX8 106 yX8_fillTrial, Cond.instanceMethod yX8_fillTrial, Cond.selects RX8 yX8_fillTrial yX8_fillTrial, Cond.code yX8_fillTrial cX8_fillTrial 3 (some .boolean), Cond.fieldLink RX8 164 "RoofCourses$Course" "length" "I", Cond.fieldLink RX8 31 "RoofCourses" "layer" "LRoofCourses$Layer;", Cond.fieldLink RX8 132 "RoofCourses$Roof" "left" "[I", Cond.methodLink RX8 200 yX6_last, Cond.instanceMethod yX6_last, Cond.selects RX6 yX6_last yX6_last]
def wsX8_course_r2 : List Cond := [Cond.initialized RX6, Cond.code yX6_last cX6_last 1 (some (.object "RoofCourses$Course")), Cond.fieldLink RX6 45 "RoofCourses$Roof" "size" "I", Cond.fieldLink RX6 17 "RoofCourses$Roof" "courses" "[LRoofCourses$Course;", Cond.fieldLink RX6 22 "RoofCourses$Roof" "ground" "LRoofCourses$Course;", Cond.methodLink RX8 196 yX6_isOpen, Cond.instanceMethod yX6_isOpen, Cond.selects RX6 yX6_isOpen yX6_isOpen, Cond.code yX6_isOpen cX6_isOpen 1 (some .boolean), Cond.fieldLink RX6 26 "RoofCourses$Roof" "plan" "LRoofCourses$Plan;", Cond.methodLink RX6 48 yX6_last, Cond.methodLink RX6 52 yX5_isReadyBy, Cond.instanceMethod yX5_isReadyBy, Cond.selects RX5 yX5_isReadyBy yX5_isReadyBy, Cond.initialized RX5, Cond.code yX5_isReadyBy cX5_isReadyBy 2 (some .boolean), Cond.fieldLink RX5 25 "RoofCourses$Plan" "high" "I", Cond.methodLink RX5 77 yX3_head, Cond.instanceMethod yX3_head, Cond.selects RX3 yX3_head yX3_head, Cond.code yX3_head cX3_head 1 (some .int), Cond.fieldLink RX3 22 "RoofCourses$Course" "foot" "I", Cond.fieldLink RX3 25 "RoofCourses$Course" "gauge" "I", Cond.methodLink RX8 246 yX4_fill]
def wsX8_course_r3 : List Cond := [Cond.instanceMethod yX4_fill, Cond.selects RX4 yX4_fill yX4_fill, Cond.initialized RX4, Cond.code yX4_fill cX4_fill 9 (some .boolean), Cond.fieldLink RX4 9 "RoofCourses$Layer" "rest" "[I", Cond.methodLink RX4 19 arraycopyName, Cond.native arraycopyName, Cond.static arraycopyName, Cond.initialized "java/lang/System", Cond.fieldLink RX4 15 "RoofCourses$Layer" "plan" "LRoofCourses$Plan;", Cond.fieldLink RX4 44 "RoofCourses$Course" "size" "I", Cond.fieldLink RX4 55 "RoofCourses$Plan" "breadth" "[I", Cond.fieldLink RX4 58 "RoofCourses$Course" "room" "I", Cond.methodLink RX4 25 yX3_head, Cond.methodLink RX4 31 yX5_gaugeOf, Cond.instanceMethod yX5_gaugeOf, Cond.selects RX5 yX5_gaugeOf yX5_gaugeOf, Cond.code yX5_gaugeOf cX5_gaugeOf 2 (some .int), Cond.fieldLink RX5 31 "RoofCourses$Plan" "lap" "I", Cond.methodLink RX4 37 yX5_roomAt, Cond.instanceMethod yX5_roomAt, Cond.selects RX5 yX5_roomAt yX5_roomAt, Cond.code yX5_roomAt cX5_roomAt 2 (some .int), Cond.fieldLink RX5 28 "RoofCourses$Plan" "wide" "I"]
def wsX8_course_r4 : List Cond := [Cond.fieldLink RX5 37 "RoofCourses$Plan" "hip" "I", Cond.methodLink RX5 72 Lib.Math.max.name, Cond.static Lib.Math.max.name, Cond.initialized "java/lang/Math", Cond.code Lib.Math.max.name Lib.Math.max.code 2 (some .int), Cond.methodLink RX4 40 yX3_begin, Cond.instanceMethod yX3_begin, Cond.selects RX3 yX3_begin yX3_begin, Cond.code yX3_begin cX3_begin 5 none, Cond.fieldLink RX3 18 "RoofCourses$Course" "length" "I", Cond.fieldLink RX3 28 "RoofCourses$Course" "room" "I", Cond.fieldLink RX3 31 "RoofCourses$Course" "size" "I", Cond.fieldLink RX3 34 "RoofCourses$Course" "waste" "I", Cond.fieldLink RX3 37 "RoofCourses$Course" "cut" "I", Cond.methodLink RX4 48 yX3_startOf, Cond.instanceMethod yX3_startOf, Cond.selects RX3 yX3_startOf yX3_startOf, Cond.code yX3_startOf cX3_startOf 2 (some .int), Cond.fieldLink RX3 15 "RoofCourses$Course" "edge" "[I", Cond.methodLink RX4 51 yX4_endingAt, Cond.instanceMethod yX4_endingAt, Cond.selects RX4 yX4_endingAt yX4_endingAt, Cond.code yX4_endingAt cX4_endingAt 4 (some .int), Cond.fieldLink RX4 86 "RoofCourses$Plan" "heaps" "I"]
def wsX8_course_r5 : List Cond := [Cond.methodLink RX4 89 yX4_serves, Cond.instanceMethod yX4_serves, Cond.selects RX4 yX4_serves yX4_serves, Cond.code yX4_serves cX4_serves 3 (some .boolean), Cond.fieldLink RX4 81 "RoofCourses$Plan" "length" "[I", Cond.fieldLink RX4 84 "RoofCourses$Course" "length" "I", Cond.methodLink RX4 61 yX3_put, Cond.instanceMethod yX3_put, Cond.selects RX3 yX3_put yX3_put, Cond.code yX3_put cX3_put 4 none, Cond.fieldLink RX3 9 "RoofCourses$Course" "heapOf" "[I", Cond.methodLink RX3 40 yX3_startOf, Cond.methodLink RX4 65 yX4_putWithJoint, Cond.instanceMethod yX4_putWithJoint, Cond.selects RX4 yX4_putWithJoint yX4_putWithJoint, Cond.code yX4_putWithJoint cX4_putWithJoint 7 (some .boolean), Cond.methodLink RX4 69 yX4_brokenAt, Cond.instanceMethod yX4_brokenAt, Cond.selects RX4 yX4_brokenAt yX4_brokenAt, Cond.code yX4_brokenAt cX4_brokenAt 5 (some .int), Cond.fieldLink RX4 93 "RoofCourses$Plan" "breaking" "I", Cond.methodLink RX4 96 yX3_isBrokenAt, Cond.instanceMethod yX3_isBrokenAt, Cond.selects RX3 yX3_isBrokenAt yX3_isBrokenAt]
def wsX8_course_r6 : List Cond := [Cond.code yX3_isBrokenAt cX3_isBrokenAt 4 (some .boolean), Cond.methodLink RX3 54 Lib.Math.abs.name, Cond.static Lib.Math.abs.name, Cond.code Lib.Math.abs.name Lib.Math.abs.code 1 (some .int), Cond.methodLink RX3 50 yX3_joints, Cond.instanceMethod yX3_joints, Cond.selects RX3 yX3_joints yX3_joints, Cond.code yX3_joints cX3_joints 1 (some .int), Cond.methodLink RX3 44 Lib.Math.max.name, Cond.methodLink RX4 73 yX4_broadestFor, Cond.instanceMethod yX4_broadestFor, Cond.selects RX4 yX4_broadestFor yX4_broadestFor, Cond.code yX4_broadestFor cX4_broadestFor 3 (some .int), Cond.methodLink RX4 77 yX4_cutAt, Cond.instanceMethod yX4_cutAt, Cond.selects RX4 yX4_cutAt yX4_cutAt, Cond.code yX4_cutAt cX4_cutAt 5 (some .int), Cond.instanceMethod yX3_init, Cond.code yX3_init cX3_init 1 none, Cond.methodLink RX3 3 objectInit, Cond.instanceMethod objectInit, Cond.code objectInit ⟨#[0xb1]⟩ 1 none, Cond.arrayClass .int, Cond.methodLink RX8 110 yX6_push]
def wsX8_course_r7 : List Cond := [Cond.instanceMethod yX6_push, Cond.selects RX6 yX6_push yX6_push, Cond.code yX6_push cX6_push 2 none, Cond.fieldLink RX6 9 "RoofCourses$Roof" "left" "[I", Cond.methodLink RX6 56 yX6_addSlates, Cond.static yX6_addSlates, Cond.code yX6_addSlates cX6_addSlates 4 none, Cond.fieldLink RX6 60 "RoofCourses$Course" "size" "I", Cond.fieldLink RX6 61 "RoofCourses$Course" "heapOf" "[I", Cond.methodLink RX8 116 yX1_init, Cond.instanceMethod yX1_init, Cond.code yX1_init cX1_init 5 none, Cond.methodLink RX1 1 objectInit, Cond.fieldLink RX1 7 "RoofCourses$Change" "kind" "I", Cond.fieldLink RX1 13 "RoofCourses$Change" "course" "LRoofCourses$Course;", Cond.fieldLink RX1 17 "RoofCourses$Change" "heapNumber" "I", Cond.fieldLink RX1 20 "RoofCourses$Change" "slates" "I", Cond.methodLink RX8 119 yX2_add, Cond.instanceMethod yX2_add, Cond.selects RX2 yX2_add yX2_add, Cond.initialized RX2, Cond.code yX2_add cX2_add 3 none, Cond.fieldLink RX2 17 "RoofCourses$Changes" "size" "I", Cond.fieldLink RX2 11 "RoofCourses$Changes" "kept" "[LRoofCourses$Change;"]
def wsX8_course : List Cond := .code yX8_course cX8_course 3 (some .int) :: ((wsX8_course_r1 ++ (wsX8_course_r2 ++ (wsX8_course_r3 ++ (wsX8_course_r4 ++ (wsX8_course_r5 ++ (wsX8_course_r6 ++ wsX8_course_r7)))))) ++ wsX80 ++ wsX30 ++ wsX10 ++ wsX60 ++ wsX50 ++ wsX40 ++ wsX20)
def wsX8_up_r1 : List Cond := [Cond.fieldLink RX8 38 "RoofCourses" "roof" "LRoofCourses$Roof;", Cond.fieldLink RX8 124 "RoofCourses$Roof" "size" "I", Cond.fieldLink RX8 54 "RoofCourses" "changes" "LRoofCourses$Changes;", Cond.classLink RX8 114 RX1, Cond.instantiable RX1 4, Cond.initialized RX1, Cond.methodLink RX8 125 yX6_pop, Cond.instanceMethod yX6_pop, Cond.selects RX6 yX6_pop yX6_pop, Cond.initialized RX6, Cond.code yX6_pop cX6_pop 2 (some (.object "RoofCourses$Course")), Cond.fieldLink RX6 45 "RoofCourses$Roof" "size" "I", Cond.fieldLink RX6 9 "RoofCourses$Roof" "left" "[I", Cond.methodLink RX6 48 yX6_last, Cond.instanceMethod yX6_last, Cond.selects RX6 yX6_last yX6_last, Cond.code yX6_last cX6_last 1 (some (.object "RoofCourses$Course")), Cond.fieldLink RX6 17 "RoofCourses$Roof" "courses" "[LRoofCourses$Course;", Cond.fieldLink RX6 22 "RoofCourses$Roof" "ground" "LRoofCourses$Course;", Cond.methodLink RX6 56 yX6_addSlates, Cond.static yX6_addSlates, Cond.code yX6_addSlates cX6_addSlates 4 none, Cond.fieldLink RX6 60 "RoofCourses$Course" "size" "I", Cond.fieldLink RX6 61 "RoofCourses$Course" "heapOf" "[I"]
def wsX8_up_r2 : List Cond := [Cond.methodLink RX8 116 yX1_init, Cond.instanceMethod yX1_init, Cond.code yX1_init cX1_init 5 none, Cond.methodLink RX1 1 objectInit, Cond.instanceMethod objectInit, Cond.code objectInit ⟨#[0xb1]⟩ 1 none, Cond.fieldLink RX1 7 "RoofCourses$Change" "kind" "I", Cond.fieldLink RX1 13 "RoofCourses$Change" "course" "LRoofCourses$Course;", Cond.fieldLink RX1 17 "RoofCourses$Change" "heapNumber" "I", Cond.fieldLink RX1 20 "RoofCourses$Change" "slates" "I", Cond.methodLink RX8 119 yX2_add, Cond.instanceMethod yX2_add, Cond.selects RX2 yX2_add yX2_add, Cond.initialized RX2, Cond.code yX2_add cX2_add 3 none, Cond.fieldLink RX2 17 "RoofCourses$Changes" "size" "I", Cond.fieldLink RX2 11 "RoofCourses$Changes" "kept" "[LRoofCourses$Change;"]
def wsX8_up : List Cond := .code yX8_up cX8_up 2 (some .int) :: ((wsX8_up_r1 ++ wsX8_up_r2) ++ wsX80 ++ wsX60 ++ wsX10 ++ wsX30 ++ wsX20)
def wsX8_isHeap : List Cond := .code yX8_isHeap cX8_isHeap 2 (some .boolean) :: ([.fieldLink RX8 19 "RoofCourses" "plan" "LRoofCourses$Plan;", .fieldLink RX8 99 "RoofCourses$Plan" "heaps" "I", .methodLink RX8 91 yX8_isWithin, .static yX8_isWithin, .initialized RX8, .code yX8_isWithin cX8_isWithin 3 (some .boolean)] ++ wsX80 ++ wsX50)
def wsX8_bring_r1 : List Cond := [Cond.fieldLink RX8 38 "RoofCourses" "roof" "LRoofCourses$Roof;", Cond.fieldLink RX8 132 "RoofCourses$Roof" "left" "[I", Cond.fieldLink RX8 54 "RoofCourses" "changes" "LRoofCourses$Changes;", Cond.classLink RX8 114 RX1, Cond.instantiable RX1 4, Cond.initialized RX1, Cond.fieldLink RX8 136 "RoofCourses$Roof" "ground" "LRoofCourses$Course;", Cond.methodLink RX8 129 yX8_isHeap, Cond.instanceMethod yX8_isHeap, Cond.selects RX8 yX8_isHeap yX8_isHeap, Cond.initialized RX8, Cond.code yX8_isHeap cX8_isHeap 2 (some .boolean), Cond.fieldLink RX8 19 "RoofCourses" "plan" "LRoofCourses$Plan;", Cond.fieldLink RX8 99 "RoofCourses$Plan" "heaps" "I", Cond.methodLink RX8 91 yX8_isWithin, Cond.static yX8_isWithin, Cond.code yX8_isWithin cX8_isWithin 3 (some .boolean), Cond.methodLink RX8 116 yX1_init, Cond.instanceMethod yX1_init, Cond.code yX1_init cX1_init 5 none, Cond.methodLink RX1 1 objectInit, Cond.instanceMethod objectInit, Cond.code objectInit ⟨#[0xb1]⟩ 1 none, Cond.fieldLink RX1 7 "RoofCourses$Change" "kind" "I"]
def wsX8_bring_r2 : List Cond := [Cond.fieldLink RX1 13 "RoofCourses$Change" "course" "LRoofCourses$Course;", Cond.fieldLink RX1 17 "RoofCourses$Change" "heapNumber" "I", Cond.fieldLink RX1 20 "RoofCourses$Change" "slates" "I", Cond.methodLink RX8 119 yX2_add, Cond.instanceMethod yX2_add, Cond.selects RX2 yX2_add yX2_add, Cond.initialized RX2, Cond.code yX2_add cX2_add 3 none, Cond.fieldLink RX2 17 "RoofCourses$Changes" "size" "I", Cond.fieldLink RX2 11 "RoofCourses$Changes" "kept" "[LRoofCourses$Change;"]
def wsX8_bring : List Cond := .code yX8_bring cX8_bring 3 (some .int) :: ((wsX8_bring_r1 ++ wsX8_bring_r2) ++ wsX80 ++ wsX60 ++ wsX10 ++ wsX50 ++ wsX20)
def wsX8_undo_r1 : List Cond := [Cond.fieldLink RX8 54 "RoofCourses" "changes" "LRoofCourses$Changes;", Cond.fieldLink RX8 38 "RoofCourses" "roof" "LRoofCourses$Roof;", Cond.fieldLink RX8 147 "RoofCourses$Changes" "size" "I", Cond.methodLink RX8 139 yX2_takeLatest, Cond.instanceMethod yX2_takeLatest, Cond.selects RX2 yX2_takeLatest yX2_takeLatest, Cond.initialized RX2, Cond.code yX2_takeLatest cX2_takeLatest 1 (some (.object "RoofCourses$Change")), Cond.fieldLink RX2 17 "RoofCourses$Changes" "size" "I", Cond.fieldLink RX2 11 "RoofCourses$Changes" "kept" "[LRoofCourses$Change;", Cond.methodLink RX8 143 yX1_undoOn, Cond.instanceMethod yX1_undoOn, Cond.selects RX1 yX1_undoOn yX1_undoOn, Cond.initialized RX1, Cond.code yX1_undoOn cX1_undoOn 2 none, Cond.fieldLink RX1 7 "RoofCourses$Change" "kind" "I", Cond.fieldLink RX1 13 "RoofCourses$Change" "course" "LRoofCourses$Course;", Cond.fieldLink RX1 33 "RoofCourses$Roof" "left" "[I", Cond.fieldLink RX1 17 "RoofCourses$Change" "heapNumber" "I", Cond.fieldLink RX1 20 "RoofCourses$Change" "slates" "I", Cond.methodLink RX1 23 yX6_pop, Cond.instanceMethod yX6_pop, Cond.selects RX6 yX6_pop yX6_pop, Cond.initialized RX6]
def wsX8_undo_r2 : List Cond := [Cond.code yX6_pop cX6_pop 2 (some (.object "RoofCourses$Course")), Cond.fieldLink RX6 45 "RoofCourses$Roof" "size" "I", Cond.fieldLink RX6 9 "RoofCourses$Roof" "left" "[I", Cond.methodLink RX6 48 yX6_last, Cond.instanceMethod yX6_last, Cond.selects RX6 yX6_last yX6_last, Cond.code yX6_last cX6_last 1 (some (.object "RoofCourses$Course")), Cond.fieldLink RX6 17 "RoofCourses$Roof" "courses" "[LRoofCourses$Course;", Cond.fieldLink RX6 22 "RoofCourses$Roof" "ground" "LRoofCourses$Course;", Cond.methodLink RX6 56 yX6_addSlates, Cond.static yX6_addSlates, Cond.code yX6_addSlates cX6_addSlates 4 none, Cond.fieldLink RX6 60 "RoofCourses$Course" "size" "I", Cond.fieldLink RX6 61 "RoofCourses$Course" "heapOf" "[I", Cond.methodLink RX1 29 yX6_push, Cond.instanceMethod yX6_push, Cond.selects RX6 yX6_push yX6_push, Cond.code yX6_push cX6_push 2 none]
def wsX8_undo : List Cond := .code yX8_undo cX8_undo 2 (some .int) :: ((wsX8_undo_r1 ++ wsX8_undo_r2) ++ wsX80 ++ wsX20 ++ wsX10 ++ wsX60 ++ wsX30)
def wsX8_heap : List Cond := .code yX8_heap cX8_heap 3 (some .int) :: ([.fieldLink RX8 19 "RoofCourses" "plan" "LRoofCourses$Plan;", .fieldLink RX8 148 "RoofCourses$Plan" "length" "[I", .fieldLink RX8 150 "RoofCourses$Plan" "breadth" "[I", .fieldLink RX8 38 "RoofCourses" "roof" "LRoofCourses$Roof;", .fieldLink RX8 132 "RoofCourses$Roof" "left" "[I", .methodLink RX8 129 yX8_isHeap, .instanceMethod yX8_isHeap, .selects RX8 yX8_isHeap yX8_isHeap, .initialized RX8, .code yX8_isHeap cX8_isHeap 2 (some .boolean), .fieldLink RX8 99 "RoofCourses$Plan" "heaps" "I", .methodLink RX8 91 yX8_isWithin, .static yX8_isWithin, .code yX8_isWithin cX8_isWithin 3 (some .boolean), .methodLink RX8 153 yX6_laidOf, .instanceMethod yX6_laidOf, .selects RX6 yX6_laidOf yX6_laidOf, .initialized RX6, .code yX6_laidOf cX6_laidOf 6 (some .int), .fieldLink RX6 45 "RoofCourses$Roof" "size" "I", .fieldLink RX6 17 "RoofCourses$Roof" "courses" "[LRoofCourses$Course;", .fieldLink RX6 60 "RoofCourses$Course" "size" "I", .fieldLink RX6 61 "RoofCourses$Course" "heapOf" "[I"] ++ wsX80 ++ wsX50 ++ wsX60 ++ wsX30)
def wsX8_isCourse : List Cond := .code yX8_isCourse cX8_isCourse 2 (some .boolean) :: ([.fieldLink RX8 38 "RoofCourses" "roof" "LRoofCourses$Roof;", .fieldLink RX8 124 "RoofCourses$Roof" "size" "I", .methodLink RX8 91 yX8_isWithin, .static yX8_isWithin, .initialized RX8, .code yX8_isWithin cX8_isWithin 3 (some .boolean)] ++ wsX80 ++ wsX60)
def wsX8_told_r1 : List Cond := [Cond.fieldLink RX8 38 "RoofCourses" "roof" "LRoofCourses$Roof;", Cond.fieldLink RX8 160 "RoofCourses$Roof" "courses" "[LRoofCourses$Course;", Cond.fieldLink RX8 164 "RoofCourses$Course" "length" "I", Cond.fieldLink RX8 166 "RoofCourses$Course" "foot" "I", Cond.fieldLink RX8 169 "RoofCourses$Course" "gauge" "I", Cond.fieldLink RX8 172 "RoofCourses$Course" "room" "I", Cond.fieldLink RX8 123 "RoofCourses$Course" "size" "I", Cond.fieldLink RX8 175 "RoofCourses$Course" "waste" "I", Cond.fieldLink RX8 181 "RoofCourses$Course" "cut" "I", Cond.methodLink RX8 157 yX8_isCourse, Cond.instanceMethod yX8_isCourse, Cond.selects RX8 yX8_isCourse yX8_isCourse, Cond.initialized RX8, Cond.code yX8_isCourse cX8_isCourse 2 (some .boolean), Cond.fieldLink RX8 124 "RoofCourses$Roof" "size" "I", Cond.methodLink RX8 91 yX8_isWithin, Cond.static yX8_isWithin, Cond.code yX8_isWithin cX8_isWithin 3 (some .boolean), Cond.methodLink RX8 178 yX6_lapHeldBy, Cond.instanceMethod yX6_lapHeldBy, Cond.selects RX6 yX6_lapHeldBy yX6_lapHeldBy, Cond.initialized RX6, Cond.code yX6_lapHeldBy cX6_lapHeldBy 2 (some .int), Cond.fieldLink RX6 45 "RoofCourses$Roof" "size" "I"]
def wsX8_told_r2 : List Cond := [Cond.fieldLink RX6 17 "RoofCourses$Roof" "courses" "[LRoofCourses$Course;", Cond.fieldLink RX6 30 "RoofCourses$Course" "length" "I", Cond.fieldLink RX6 64 "RoofCourses$Course" "gauge" "I"]
def wsX8_told : List Cond := .code yX8_told cX8_told 4 (some .int) :: ((wsX8_told_r1 ++ wsX8_told_r2) ++ wsX80 ++ wsX60 ++ wsX30)
def wsX8_joint : List Cond := .code yX8_joint cX8_joint 4 (some .int) :: ([.fieldLink RX8 38 "RoofCourses" "roof" "LRoofCourses$Roof;", .fieldLink RX8 160 "RoofCourses$Roof" "courses" "[LRoofCourses$Course;", .fieldLink RX8 187 "RoofCourses$Course" "edge" "[I", .methodLink RX8 157 yX8_isCourse, .instanceMethod yX8_isCourse, .selects RX8 yX8_isCourse yX8_isCourse, .initialized RX8, .code yX8_isCourse cX8_isCourse 2 (some .boolean), .fieldLink RX8 124 "RoofCourses$Roof" "size" "I", .methodLink RX8 91 yX8_isWithin, .static yX8_isWithin, .code yX8_isWithin cX8_isWithin 3 (some .boolean), .methodLink RX8 184 yX3_joints, .instanceMethod yX3_joints, .selects RX3 yX3_joints yX3_joints, .initialized RX3, .code yX3_joints cX3_joints 1 (some .int), .fieldLink RX3 31 "RoofCourses$Course" "size" "I", .methodLink RX3 44 Lib.Math.max.name, .static Lib.Math.max.name, .initialized "java/lang/Math", .code Lib.Math.max.name Lib.Math.max.code 2 (some .int)] ++ wsX80 ++ wsX60 ++ wsX30)
def wsX8_slate : List Cond := .code yX8_slate cX8_slate 5 (some .int) :: ([.fieldLink RX8 38 "RoofCourses" "roof" "LRoofCourses$Roof;", .fieldLink RX8 160 "RoofCourses$Roof" "courses" "[LRoofCourses$Course;", .fieldLink RX8 123 "RoofCourses$Course" "size" "I", .fieldLink RX8 190 "RoofCourses$Course" "heapOf" "[I", .fieldLink RX8 187 "RoofCourses$Course" "edge" "[I", .methodLink RX8 157 yX8_isCourse, .instanceMethod yX8_isCourse, .selects RX8 yX8_isCourse yX8_isCourse, .initialized RX8, .code yX8_isCourse cX8_isCourse 2 (some .boolean), .fieldLink RX8 124 "RoofCourses$Roof" "size" "I", .methodLink RX8 91 yX8_isWithin, .static yX8_isWithin, .code yX8_isWithin cX8_isWithin 3 (some .boolean), .methodLink RX8 193 yX3_startOf, .instanceMethod yX3_startOf, .selects RX3 yX3_startOf yX3_startOf, .initialized RX3, .code yX3_startOf cX3_startOf 2 (some .int), .fieldLink RX3 15 "RoofCourses$Course" "edge" "[I"] ++ wsX80 ++ wsX60 ++ wsX30)
def wsX8_tried_r1 : List Cond := [Cond.fieldLink RX8 61 "RoofCourses" "trial" "LRoofCourses$Course;", Cond.fieldLink RX8 123 "RoofCourses$Course" "size" "I", Cond.fieldLink RX8 175 "RoofCourses$Course" "waste" "I", Cond.methodLink RX8 91 yX8_isWithin, Cond.static yX8_isWithin, Cond.initialized RX8, Cond.code yX8_isWithin cX8_isWithin 3 (some .boolean), Cond.methodLink RX8 106 yX8_fillTrial, Cond.instanceMethod yX8_fillTrial, Cond.selects RX8 yX8_fillTrial yX8_fillTrial, Cond.code yX8_fillTrial cX8_fillTrial 3 (some .boolean), Cond.fieldLink RX8 38 "RoofCourses" "roof" "LRoofCourses$Roof;", Cond.fieldLink RX8 164 "RoofCourses$Course" "length" "I", Cond.fieldLink RX8 31 "RoofCourses" "layer" "LRoofCourses$Layer;", Cond.fieldLink RX8 132 "RoofCourses$Roof" "left" "[I", Cond.methodLink RX8 200 yX6_last, Cond.instanceMethod yX6_last, Cond.selects RX6 yX6_last yX6_last, Cond.initialized RX6, Cond.code yX6_last cX6_last 1 (some (.object "RoofCourses$Course")), Cond.fieldLink RX6 45 "RoofCourses$Roof" "size" "I", Cond.fieldLink RX6 17 "RoofCourses$Roof" "courses" "[LRoofCourses$Course;", Cond.fieldLink RX6 22 "RoofCourses$Roof" "ground" "LRoofCourses$Course;", Cond.methodLink RX8 196 yX6_isOpen]
def wsX8_tried_r2 : List Cond := [Cond.instanceMethod yX6_isOpen, Cond.selects RX6 yX6_isOpen yX6_isOpen, Cond.code yX6_isOpen cX6_isOpen 1 (some .boolean), Cond.fieldLink RX6 26 "RoofCourses$Roof" "plan" "LRoofCourses$Plan;", Cond.methodLink RX6 48 yX6_last, Cond.methodLink RX6 52 yX5_isReadyBy, Cond.instanceMethod yX5_isReadyBy, Cond.selects RX5 yX5_isReadyBy yX5_isReadyBy, Cond.initialized RX5, Cond.code yX5_isReadyBy cX5_isReadyBy 2 (some .boolean), Cond.fieldLink RX5 25 "RoofCourses$Plan" "high" "I", Cond.methodLink RX5 77 yX3_head, Cond.instanceMethod yX3_head, Cond.selects RX3 yX3_head yX3_head, Cond.initialized RX3, Cond.code yX3_head cX3_head 1 (some .int), Cond.fieldLink RX3 22 "RoofCourses$Course" "foot" "I", Cond.fieldLink RX3 25 "RoofCourses$Course" "gauge" "I", Cond.methodLink RX8 246 yX4_fill, Cond.instanceMethod yX4_fill, Cond.selects RX4 yX4_fill yX4_fill, Cond.initialized RX4, Cond.code yX4_fill cX4_fill 9 (some .boolean), Cond.fieldLink RX4 9 "RoofCourses$Layer" "rest" "[I"]
def wsX8_tried_r3 : List Cond := [Cond.methodLink RX4 19 arraycopyName, Cond.native arraycopyName, Cond.static arraycopyName, Cond.initialized "java/lang/System", Cond.fieldLink RX4 15 "RoofCourses$Layer" "plan" "LRoofCourses$Plan;", Cond.fieldLink RX4 44 "RoofCourses$Course" "size" "I", Cond.fieldLink RX4 55 "RoofCourses$Plan" "breadth" "[I", Cond.fieldLink RX4 58 "RoofCourses$Course" "room" "I", Cond.methodLink RX4 25 yX3_head, Cond.methodLink RX4 31 yX5_gaugeOf, Cond.instanceMethod yX5_gaugeOf, Cond.selects RX5 yX5_gaugeOf yX5_gaugeOf, Cond.code yX5_gaugeOf cX5_gaugeOf 2 (some .int), Cond.fieldLink RX5 31 "RoofCourses$Plan" "lap" "I", Cond.methodLink RX4 37 yX5_roomAt, Cond.instanceMethod yX5_roomAt, Cond.selects RX5 yX5_roomAt yX5_roomAt, Cond.code yX5_roomAt cX5_roomAt 2 (some .int), Cond.fieldLink RX5 28 "RoofCourses$Plan" "wide" "I", Cond.fieldLink RX5 37 "RoofCourses$Plan" "hip" "I", Cond.methodLink RX5 72 Lib.Math.max.name, Cond.static Lib.Math.max.name, Cond.initialized "java/lang/Math", Cond.code Lib.Math.max.name Lib.Math.max.code 2 (some .int)]
def wsX8_tried_r4 : List Cond := [Cond.methodLink RX4 40 yX3_begin, Cond.instanceMethod yX3_begin, Cond.selects RX3 yX3_begin yX3_begin, Cond.code yX3_begin cX3_begin 5 none, Cond.fieldLink RX3 18 "RoofCourses$Course" "length" "I", Cond.fieldLink RX3 28 "RoofCourses$Course" "room" "I", Cond.fieldLink RX3 31 "RoofCourses$Course" "size" "I", Cond.fieldLink RX3 34 "RoofCourses$Course" "waste" "I", Cond.fieldLink RX3 37 "RoofCourses$Course" "cut" "I", Cond.methodLink RX4 48 yX3_startOf, Cond.instanceMethod yX3_startOf, Cond.selects RX3 yX3_startOf yX3_startOf, Cond.code yX3_startOf cX3_startOf 2 (some .int), Cond.fieldLink RX3 15 "RoofCourses$Course" "edge" "[I", Cond.methodLink RX4 51 yX4_endingAt, Cond.instanceMethod yX4_endingAt, Cond.selects RX4 yX4_endingAt yX4_endingAt, Cond.code yX4_endingAt cX4_endingAt 4 (some .int), Cond.fieldLink RX4 86 "RoofCourses$Plan" "heaps" "I", Cond.methodLink RX4 89 yX4_serves, Cond.instanceMethod yX4_serves, Cond.selects RX4 yX4_serves yX4_serves, Cond.code yX4_serves cX4_serves 3 (some .boolean), Cond.fieldLink RX4 81 "RoofCourses$Plan" "length" "[I"]
def wsX8_tried_r5 : List Cond := [Cond.fieldLink RX4 84 "RoofCourses$Course" "length" "I", Cond.methodLink RX4 61 yX3_put, Cond.instanceMethod yX3_put, Cond.selects RX3 yX3_put yX3_put, Cond.code yX3_put cX3_put 4 none, Cond.fieldLink RX3 9 "RoofCourses$Course" "heapOf" "[I", Cond.methodLink RX3 40 yX3_startOf, Cond.methodLink RX4 65 yX4_putWithJoint, Cond.instanceMethod yX4_putWithJoint, Cond.selects RX4 yX4_putWithJoint yX4_putWithJoint, Cond.code yX4_putWithJoint cX4_putWithJoint 7 (some .boolean), Cond.methodLink RX4 69 yX4_brokenAt, Cond.instanceMethod yX4_brokenAt, Cond.selects RX4 yX4_brokenAt yX4_brokenAt, Cond.code yX4_brokenAt cX4_brokenAt 5 (some .int), Cond.fieldLink RX4 93 "RoofCourses$Plan" "breaking" "I", Cond.methodLink RX4 96 yX3_isBrokenAt, Cond.instanceMethod yX3_isBrokenAt, Cond.selects RX3 yX3_isBrokenAt yX3_isBrokenAt, Cond.code yX3_isBrokenAt cX3_isBrokenAt 4 (some .boolean), Cond.methodLink RX3 54 Lib.Math.abs.name, Cond.static Lib.Math.abs.name, Cond.code Lib.Math.abs.name Lib.Math.abs.code 1 (some .int), Cond.methodLink RX3 50 yX3_joints]
def wsX8_tried_r6 : List Cond := [Cond.instanceMethod yX3_joints, Cond.selects RX3 yX3_joints yX3_joints, Cond.code yX3_joints cX3_joints 1 (some .int), Cond.methodLink RX3 44 Lib.Math.max.name, Cond.methodLink RX4 73 yX4_broadestFor, Cond.instanceMethod yX4_broadestFor, Cond.selects RX4 yX4_broadestFor yX4_broadestFor, Cond.code yX4_broadestFor cX4_broadestFor 3 (some .int), Cond.methodLink RX4 77 yX4_cutAt, Cond.instanceMethod yX4_cutAt, Cond.selects RX4 yX4_cutAt yX4_cutAt, Cond.code yX4_cutAt cX4_cutAt 5 (some .int)]
def wsX8_tried : List Cond := .code yX8_tried cX8_tried 3 (some .int) :: ((wsX8_tried_r1 ++ (wsX8_tried_r2 ++ (wsX8_tried_r3 ++ (wsX8_tried_r4 ++ (wsX8_tried_r5 ++ wsX8_tried_r6))))) ++ wsX80 ++ wsX30 ++ wsX60 ++ wsX50 ++ wsX40)
def wsX8_next_r1 : List Cond := [Cond.fieldLink RX8 38 "RoofCourses" "roof" "LRoofCourses$Roof;", Cond.fieldLink RX8 47 "RoofCourses" "ahead" "LRoofCourses$Ahead;", Cond.fieldLink RX8 132 "RoofCourses$Roof" "left" "[I", Cond.methodLink RX8 91 yX8_isWithin, Cond.static yX8_isWithin, Cond.initialized RX8, Cond.code yX8_isWithin cX8_isWithin 3 (some .boolean), Cond.methodLink RX8 196 yX6_isOpen, Cond.instanceMethod yX6_isOpen, Cond.selects RX6 yX6_isOpen yX6_isOpen, Cond.initialized RX6, Cond.code yX6_isOpen cX6_isOpen 1 (some .boolean), Cond.fieldLink RX6 45 "RoofCourses$Roof" "size" "I", Cond.fieldLink RX6 26 "RoofCourses$Roof" "plan" "LRoofCourses$Plan;", Cond.methodLink RX6 48 yX6_last, Cond.instanceMethod yX6_last, Cond.selects RX6 yX6_last yX6_last, Cond.code yX6_last cX6_last 1 (some (.object "RoofCourses$Course")), Cond.fieldLink RX6 17 "RoofCourses$Roof" "courses" "[LRoofCourses$Course;", Cond.fieldLink RX6 22 "RoofCourses$Roof" "ground" "LRoofCourses$Course;", Cond.methodLink RX6 52 yX5_isReadyBy, Cond.instanceMethod yX5_isReadyBy, Cond.selects RX5 yX5_isReadyBy yX5_isReadyBy, Cond.initialized RX5]
def wsX8_next_r2 : List Cond := [Cond.code yX5_isReadyBy cX5_isReadyBy 2 (some .boolean), Cond.fieldLink RX5 25 "RoofCourses$Plan" "high" "I", Cond.methodLink RX5 77 yX3_head, Cond.instanceMethod yX3_head, Cond.selects RX3 yX3_head yX3_head, Cond.initialized RX3, Cond.code yX3_head cX3_head 1 (some .int), Cond.fieldLink RX3 22 "RoofCourses$Course" "foot" "I", Cond.fieldLink RX3 25 "RoofCourses$Course" "gauge" "I", Cond.methodLink RX8 200 yX6_last, Cond.methodLink RX8 203 yX0_choose, Cond.instanceMethod yX0_choose, Cond.selects RX0 yX0_choose yX0_choose, Cond.initialized RX0, Cond.code yX0_choose cX0_choose 10 (some .int), Cond.fieldLink RX0 28 "RoofCourses$Ahead" "plan" "LRoofCourses$Plan;", Cond.fieldLink RX0 40 "RoofCourses$Plan" "heaps" "I", Cond.fieldLink RX0 46 "RoofCourses$Plan" "length" "[I", Cond.fieldLink RX0 49 "RoofCourses$Course" "length" "I", Cond.fieldLink RX0 32 "RoofCourses$Ahead" "layer" "LRoofCourses$Layer;", Cond.fieldLink RX0 18 "RoofCourses$Ahead" "probe" "LRoofCourses$Course;", Cond.fieldLink RX0 57 "RoofCourses$Course" "waste" "I", Cond.fieldLink RX0 60 "RoofCourses$Course" "gauge" "I", Cond.methodLink RX0 51 yX4_fill]
def wsX8_next_r3 : List Cond := [Cond.instanceMethod yX4_fill, Cond.selects RX4 yX4_fill yX4_fill, Cond.initialized RX4, Cond.code yX4_fill cX4_fill 9 (some .boolean), Cond.fieldLink RX4 9 "RoofCourses$Layer" "rest" "[I", Cond.methodLink RX4 19 arraycopyName, Cond.native arraycopyName, Cond.static arraycopyName, Cond.initialized "java/lang/System", Cond.fieldLink RX4 15 "RoofCourses$Layer" "plan" "LRoofCourses$Plan;", Cond.fieldLink RX4 44 "RoofCourses$Course" "size" "I", Cond.fieldLink RX4 55 "RoofCourses$Plan" "breadth" "[I", Cond.fieldLink RX4 58 "RoofCourses$Course" "room" "I", Cond.methodLink RX4 25 yX3_head, Cond.methodLink RX4 31 yX5_gaugeOf, Cond.instanceMethod yX5_gaugeOf, Cond.selects RX5 yX5_gaugeOf yX5_gaugeOf, Cond.code yX5_gaugeOf cX5_gaugeOf 2 (some .int), Cond.fieldLink RX5 31 "RoofCourses$Plan" "lap" "I", Cond.methodLink RX4 37 yX5_roomAt, Cond.instanceMethod yX5_roomAt, Cond.selects RX5 yX5_roomAt yX5_roomAt, Cond.code yX5_roomAt cX5_roomAt 2 (some .int), Cond.fieldLink RX5 28 "RoofCourses$Plan" "wide" "I"]
def wsX8_next_r4 : List Cond := [Cond.fieldLink RX5 37 "RoofCourses$Plan" "hip" "I", Cond.methodLink RX5 72 Lib.Math.max.name, Cond.static Lib.Math.max.name, Cond.initialized "java/lang/Math", Cond.code Lib.Math.max.name Lib.Math.max.code 2 (some .int), Cond.methodLink RX4 40 yX3_begin, Cond.instanceMethod yX3_begin, Cond.selects RX3 yX3_begin yX3_begin, Cond.code yX3_begin cX3_begin 5 none, Cond.fieldLink RX3 18 "RoofCourses$Course" "length" "I", Cond.fieldLink RX3 28 "RoofCourses$Course" "room" "I", Cond.fieldLink RX3 31 "RoofCourses$Course" "size" "I", Cond.fieldLink RX3 34 "RoofCourses$Course" "waste" "I", Cond.fieldLink RX3 37 "RoofCourses$Course" "cut" "I", Cond.methodLink RX4 48 yX3_startOf, Cond.instanceMethod yX3_startOf, Cond.selects RX3 yX3_startOf yX3_startOf, Cond.code yX3_startOf cX3_startOf 2 (some .int), Cond.fieldLink RX3 15 "RoofCourses$Course" "edge" "[I", Cond.methodLink RX4 51 yX4_endingAt, Cond.instanceMethod yX4_endingAt, Cond.selects RX4 yX4_endingAt yX4_endingAt, Cond.code yX4_endingAt cX4_endingAt 4 (some .int), Cond.fieldLink RX4 86 "RoofCourses$Plan" "heaps" "I"]
def wsX8_next_r5 : List Cond := [Cond.methodLink RX4 89 yX4_serves, Cond.instanceMethod yX4_serves, Cond.selects RX4 yX4_serves yX4_serves, Cond.code yX4_serves cX4_serves 3 (some .boolean), Cond.fieldLink RX4 81 "RoofCourses$Plan" "length" "[I", Cond.fieldLink RX4 84 "RoofCourses$Course" "length" "I", Cond.methodLink RX4 61 yX3_put, Cond.instanceMethod yX3_put, Cond.selects RX3 yX3_put yX3_put, Cond.code yX3_put cX3_put 4 none, Cond.fieldLink RX3 9 "RoofCourses$Course" "heapOf" "[I", Cond.methodLink RX3 40 yX3_startOf, Cond.methodLink RX4 65 yX4_putWithJoint, Cond.instanceMethod yX4_putWithJoint, Cond.selects RX4 yX4_putWithJoint yX4_putWithJoint, Cond.code yX4_putWithJoint cX4_putWithJoint 7 (some .boolean), Cond.methodLink RX4 69 yX4_brokenAt, Cond.instanceMethod yX4_brokenAt, Cond.selects RX4 yX4_brokenAt yX4_brokenAt, Cond.code yX4_brokenAt cX4_brokenAt 5 (some .int), Cond.fieldLink RX4 93 "RoofCourses$Plan" "breaking" "I", Cond.methodLink RX4 96 yX3_isBrokenAt, Cond.instanceMethod yX3_isBrokenAt, Cond.selects RX3 yX3_isBrokenAt yX3_isBrokenAt]
def wsX8_next_r6 : List Cond := [Cond.code yX3_isBrokenAt cX3_isBrokenAt 4 (some .boolean), Cond.methodLink RX3 54 Lib.Math.abs.name, Cond.static Lib.Math.abs.name, Cond.code Lib.Math.abs.name Lib.Math.abs.code 1 (some .int), Cond.methodLink RX3 50 yX3_joints, Cond.instanceMethod yX3_joints, Cond.selects RX3 yX3_joints yX3_joints, Cond.code yX3_joints cX3_joints 1 (some .int), Cond.methodLink RX3 44 Lib.Math.max.name, Cond.methodLink RX4 73 yX4_broadestFor, Cond.instanceMethod yX4_broadestFor, Cond.selects RX4 yX4_broadestFor yX4_broadestFor, Cond.code yX4_broadestFor cX4_broadestFor 3 (some .int), Cond.methodLink RX4 77 yX4_cutAt, Cond.instanceMethod yX4_cutAt, Cond.selects RX4 yX4_cutAt yX4_cutAt, Cond.code yX4_cutAt cX4_cutAt 5 (some .int)]
def wsX8_next : List Cond := .code yX8_next cX8_next 2 (some .int) :: ((wsX8_next_r1 ++ (wsX8_next_r2 ++ (wsX8_next_r3 ++ (wsX8_next_r4 ++ (wsX8_next_r5 ++ wsX8_next_r6))))) ++ wsX80 ++ wsX60 ++ wsX50 ++ wsX30 ++ wsX00 ++ wsX40)
def wsX8_itself_r1 : List Cond := [Cond.fieldLink RX8 47 "RoofCourses" "ahead" "LRoofCourses$Ahead;", Cond.fieldLink RX8 211 "RoofCourses$Ahead" "more" "I", Cond.fieldLink RX8 214 "RoofCourses$Ahead" "waste" "I", Cond.fieldLink RX8 215 "RoofCourses$Ahead" "ready" "Z", Cond.methodLink RX8 91 yX8_isWithin, Cond.static yX8_isWithin, Cond.initialized RX8, Cond.code yX8_isWithin cX8_isWithin 3 (some .boolean), Cond.methodLink RX8 207 yX0_go, Cond.instanceMethod yX0_go, Cond.selects RX0 yX0_go yX0_go, Cond.initialized RX0, Cond.code yX0_go cX0_go 6 none, Cond.fieldLink RX0 36 "RoofCourses$Ahead" "roof" "LRoofCourses$Roof;", Cond.fieldLink RX0 63 "RoofCourses$Roof" "left" "[I", Cond.fieldLink RX0 9 "RoofCourses$Ahead" "left" "[I", Cond.methodLink RX0 66 arraycopyName, Cond.native arraycopyName, Cond.static arraycopyName, Cond.initialized "java/lang/System", Cond.fieldLink RX0 72 "RoofCourses$Ahead" "more" "I", Cond.fieldLink RX0 75 "RoofCourses$Ahead" "waste" "I", Cond.fieldLink RX0 80 "RoofCourses$Roof" "size" "I", Cond.fieldLink RX0 28 "RoofCourses$Ahead" "plan" "LRoofCourses$Plan;"]
def wsX8_itself_r2 : List Cond := [Cond.fieldLink RX0 22 "RoofCourses$Ahead" "even" "LRoofCourses$Course;", Cond.fieldLink RX0 25 "RoofCourses$Ahead" "odd" "LRoofCourses$Course;", Cond.fieldLink RX0 32 "RoofCourses$Ahead" "layer" "LRoofCourses$Layer;", Cond.fieldLink RX0 57 "RoofCourses$Course" "waste" "I", Cond.fieldLink RX0 95 "RoofCourses$Ahead" "ready" "Z", Cond.methodLink RX0 76 yX6_last, Cond.instanceMethod yX6_last, Cond.selects RX6 yX6_last yX6_last, Cond.initialized RX6, Cond.code yX6_last cX6_last 1 (some (.object "RoofCourses$Course")), Cond.fieldLink RX6 45 "RoofCourses$Roof" "size" "I", Cond.fieldLink RX6 17 "RoofCourses$Roof" "courses" "[LRoofCourses$Course;", Cond.fieldLink RX6 22 "RoofCourses$Roof" "ground" "LRoofCourses$Course;", Cond.methodLink RX0 83 yX5_isReadyBy, Cond.instanceMethod yX5_isReadyBy, Cond.selects RX5 yX5_isReadyBy yX5_isReadyBy, Cond.initialized RX5, Cond.code yX5_isReadyBy cX5_isReadyBy 2 (some .boolean), Cond.fieldLink RX5 25 "RoofCourses$Plan" "high" "I", Cond.methodLink RX5 77 yX3_head, Cond.instanceMethod yX3_head, Cond.selects RX3 yX3_head yX3_head, Cond.initialized RX3, Cond.code yX3_head cX3_head 1 (some .int)]
def wsX8_itself_r3 : List Cond := [Cond.fieldLink RX3 22 "RoofCourses$Course" "foot" "I", Cond.fieldLink RX3 25 "RoofCourses$Course" "gauge" "I", Cond.methodLink RX0 87 yX0_choose, Cond.instanceMethod yX0_choose, Cond.selects RX0 yX0_choose yX0_choose, Cond.code yX0_choose cX0_choose 10 (some .int), Cond.fieldLink RX0 40 "RoofCourses$Plan" "heaps" "I", Cond.fieldLink RX0 46 "RoofCourses$Plan" "length" "[I", Cond.fieldLink RX0 49 "RoofCourses$Course" "length" "I", Cond.fieldLink RX0 18 "RoofCourses$Ahead" "probe" "LRoofCourses$Course;", Cond.fieldLink RX0 60 "RoofCourses$Course" "gauge" "I", Cond.methodLink RX0 51 yX4_fill, Cond.instanceMethod yX4_fill, Cond.selects RX4 yX4_fill yX4_fill, Cond.initialized RX4, Cond.code yX4_fill cX4_fill 9 (some .boolean), Cond.fieldLink RX4 9 "RoofCourses$Layer" "rest" "[I", Cond.methodLink RX4 19 arraycopyName, Cond.fieldLink RX4 15 "RoofCourses$Layer" "plan" "LRoofCourses$Plan;", Cond.fieldLink RX4 44 "RoofCourses$Course" "size" "I", Cond.fieldLink RX4 55 "RoofCourses$Plan" "breadth" "[I", Cond.fieldLink RX4 58 "RoofCourses$Course" "room" "I", Cond.methodLink RX4 25 yX3_head, Cond.methodLink RX4 31 yX5_gaugeOf]
def wsX8_itself_r4 : List Cond := [Cond.instanceMethod yX5_gaugeOf, Cond.selects RX5 yX5_gaugeOf yX5_gaugeOf, Cond.code yX5_gaugeOf cX5_gaugeOf 2 (some .int), Cond.fieldLink RX5 31 "RoofCourses$Plan" "lap" "I", Cond.methodLink RX4 37 yX5_roomAt, Cond.instanceMethod yX5_roomAt, Cond.selects RX5 yX5_roomAt yX5_roomAt, Cond.code yX5_roomAt cX5_roomAt 2 (some .int), Cond.fieldLink RX5 28 "RoofCourses$Plan" "wide" "I", Cond.fieldLink RX5 37 "RoofCourses$Plan" "hip" "I", Cond.methodLink RX5 72 Lib.Math.max.name, Cond.static Lib.Math.max.name, Cond.initialized "java/lang/Math", Cond.code Lib.Math.max.name Lib.Math.max.code 2 (some .int), Cond.methodLink RX4 40 yX3_begin, Cond.instanceMethod yX3_begin, Cond.selects RX3 yX3_begin yX3_begin, Cond.code yX3_begin cX3_begin 5 none, Cond.fieldLink RX3 18 "RoofCourses$Course" "length" "I", Cond.fieldLink RX3 28 "RoofCourses$Course" "room" "I", Cond.fieldLink RX3 31 "RoofCourses$Course" "size" "I", Cond.fieldLink RX3 34 "RoofCourses$Course" "waste" "I", Cond.fieldLink RX3 37 "RoofCourses$Course" "cut" "I", Cond.methodLink RX4 48 yX3_startOf]
def wsX8_itself_r5 : List Cond := [Cond.instanceMethod yX3_startOf, Cond.selects RX3 yX3_startOf yX3_startOf, Cond.code yX3_startOf cX3_startOf 2 (some .int), Cond.fieldLink RX3 15 "RoofCourses$Course" "edge" "[I", Cond.methodLink RX4 51 yX4_endingAt, Cond.instanceMethod yX4_endingAt, Cond.selects RX4 yX4_endingAt yX4_endingAt, Cond.code yX4_endingAt cX4_endingAt 4 (some .int), Cond.fieldLink RX4 86 "RoofCourses$Plan" "heaps" "I", Cond.methodLink RX4 89 yX4_serves, Cond.instanceMethod yX4_serves, Cond.selects RX4 yX4_serves yX4_serves, Cond.code yX4_serves cX4_serves 3 (some .boolean), Cond.fieldLink RX4 81 "RoofCourses$Plan" "length" "[I", Cond.fieldLink RX4 84 "RoofCourses$Course" "length" "I", Cond.methodLink RX4 61 yX3_put, Cond.instanceMethod yX3_put, Cond.selects RX3 yX3_put yX3_put, Cond.code yX3_put cX3_put 4 none, Cond.fieldLink RX3 9 "RoofCourses$Course" "heapOf" "[I", Cond.methodLink RX3 40 yX3_startOf, Cond.methodLink RX4 65 yX4_putWithJoint, Cond.instanceMethod yX4_putWithJoint, Cond.selects RX4 yX4_putWithJoint yX4_putWithJoint]
def wsX8_itself_r6 : List Cond := [Cond.code yX4_putWithJoint cX4_putWithJoint 7 (some .boolean), Cond.methodLink RX4 69 yX4_brokenAt, Cond.instanceMethod yX4_brokenAt, Cond.selects RX4 yX4_brokenAt yX4_brokenAt, Cond.code yX4_brokenAt cX4_brokenAt 5 (some .int), Cond.fieldLink RX4 93 "RoofCourses$Plan" "breaking" "I", Cond.methodLink RX4 96 yX3_isBrokenAt, Cond.instanceMethod yX3_isBrokenAt, Cond.selects RX3 yX3_isBrokenAt yX3_isBrokenAt, Cond.code yX3_isBrokenAt cX3_isBrokenAt 4 (some .boolean), Cond.methodLink RX3 54 Lib.Math.abs.name, Cond.static Lib.Math.abs.name, Cond.code Lib.Math.abs.name Lib.Math.abs.code 1 (some .int), Cond.methodLink RX3 50 yX3_joints, Cond.instanceMethod yX3_joints, Cond.selects RX3 yX3_joints yX3_joints, Cond.code yX3_joints cX3_joints 1 (some .int), Cond.methodLink RX3 44 Lib.Math.max.name, Cond.methodLink RX4 73 yX4_broadestFor, Cond.instanceMethod yX4_broadestFor, Cond.selects RX4 yX4_broadestFor yX4_broadestFor, Cond.code yX4_broadestFor cX4_broadestFor 3 (some .int), Cond.methodLink RX4 77 yX4_cutAt, Cond.instanceMethod yX4_cutAt]
def wsX8_itself_r7 : List Cond := [Cond.selects RX4 yX4_cutAt yX4_cutAt, Cond.code yX4_cutAt cX4_cutAt 5 (some .int), Cond.methodLink RX0 91 yX6_addSlates, Cond.static yX6_addSlates, Cond.code yX6_addSlates cX6_addSlates 4 none, Cond.fieldLink RX6 60 "RoofCourses$Course" "size" "I", Cond.fieldLink RX6 61 "RoofCourses$Course" "heapOf" "[I"]
def wsX8_itself : List Cond := .code yX8_itself cX8_itself 3 (some .int) :: ((wsX8_itself_r1 ++ (wsX8_itself_r2 ++ (wsX8_itself_r3 ++ (wsX8_itself_r4 ++ (wsX8_itself_r5 ++ (wsX8_itself_r6 ++ wsX8_itself_r7)))))) ++ wsX80 ++ wsX00 ++ wsX60 ++ wsX30 ++ wsX50 ++ wsX40)
def wsX8_count_r1 : List Cond := [Cond.fieldLink RX8 19 "RoofCourses" "plan" "LRoofCourses$Plan;", Cond.fieldLink RX8 99 "RoofCourses$Plan" "heaps" "I", Cond.fieldLink RX8 38 "RoofCourses" "roof" "LRoofCourses$Roof;", Cond.fieldLink RX8 124 "RoofCourses$Roof" "size" "I", Cond.fieldLink RX8 219 "RoofCourses$Plan" "high" "I", Cond.fieldLink RX8 222 "RoofCourses$Plan" "wide" "I", Cond.fieldLink RX8 225 "RoofCourses$Plan" "lap" "I", Cond.fieldLink RX8 228 "RoofCourses$Plan" "breaking" "I", Cond.fieldLink RX8 231 "RoofCourses$Plan" "hip" "I", Cond.fieldLink RX8 54 "RoofCourses" "changes" "LRoofCourses$Changes;", Cond.fieldLink RX8 147 "RoofCourses$Changes" "size" "I", Cond.fieldLink RX8 10 "RoofCourses" "text" "LRoofCourses$Text;", Cond.fieldLink RX8 95 "RoofCourses$Text" "size" "I", Cond.methodLink RX8 200 yX6_last, Cond.instanceMethod yX6_last, Cond.selects RX6 yX6_last yX6_last, Cond.initialized RX6, Cond.code yX6_last cX6_last 1 (some (.object "RoofCourses$Course")), Cond.fieldLink RX6 45 "RoofCourses$Roof" "size" "I", Cond.fieldLink RX6 17 "RoofCourses$Roof" "courses" "[LRoofCourses$Course;", Cond.fieldLink RX6 22 "RoofCourses$Roof" "ground" "LRoofCourses$Course;", Cond.methodLink RX8 234 yX3_head, Cond.instanceMethod yX3_head, Cond.selects RX3 yX3_head yX3_head]
def wsX8_count_r2 : List Cond := [Cond.initialized RX3, Cond.code yX3_head cX3_head 1 (some .int), Cond.fieldLink RX3 22 "RoofCourses$Course" "foot" "I", Cond.fieldLink RX3 25 "RoofCourses$Course" "gauge" "I", Cond.methodLink RX8 237 yX5_isReadyBy, Cond.instanceMethod yX5_isReadyBy, Cond.selects RX5 yX5_isReadyBy yX5_isReadyBy, Cond.initialized RX5, Cond.code yX5_isReadyBy cX5_isReadyBy 2 (some .boolean), Cond.fieldLink RX5 25 "RoofCourses$Plan" "high" "I", Cond.methodLink RX5 77 yX3_head, Cond.methodLink RX8 241 yX6_waste, Cond.instanceMethod yX6_waste, Cond.selects RX6 yX6_waste yX6_waste, Cond.code yX6_waste cX6_waste 3 (some .int), Cond.fieldLink RX6 67 "RoofCourses$Course" "waste" "I", Cond.methodLink RX8 243 yX6_slatesLeft, Cond.instanceMethod yX6_slatesLeft, Cond.selects RX6 yX6_slatesLeft yX6_slatesLeft, Cond.code yX6_slatesLeft cX6_slatesLeft 3 (some .int), Cond.fieldLink RX6 26 "RoofCourses$Roof" "plan" "LRoofCourses$Plan;", Cond.fieldLink RX6 70 "RoofCourses$Plan" "heaps" "I", Cond.fieldLink RX6 9 "RoofCourses$Roof" "left" "[I"]
def wsX8_count : List Cond := .code yX8_count cX8_count 2 (some .int) :: ((wsX8_count_r1 ++ wsX8_count_r2) ++ wsX80 ++ wsX50 ++ wsX60 ++ wsX20 ++ wsX70 ++ wsX30)
def wsX9_beginRead : List Cond := .code yX9_beginRead cX9_beginRead 1 none :: ([.fieldLink RX9 50 "RoofCoursesModel" "readCount" "I", .fieldLink RX9 16 "RoofCoursesModel" "readSettings" "[I"] ++ wsX90)
def wsX9_addHeap : List Cond := .code yX9_addHeap cX9_addHeap 5 (some .boolean) :: ([.fieldLink RX9 50 "RoofCoursesModel" "readCount" "I", .fieldLink RX9 22 "RoofCoursesModel" "readHeaps" "[I"] ++ wsX90)
def wsX9_takeRead : List Cond := .code yX9_takeRead cX9_takeRead 5 none :: ([.fieldLink RX9 50 "RoofCoursesModel" "readCount" "I", .fieldLink RX9 54 "RoofCoursesModel" "heapCount" "I", .fieldLink RX9 22 "RoofCoursesModel" "readHeaps" "[I", .fieldLink RX9 19 "RoofCoursesModel" "heaps" "[I", .fieldLink RX9 13 "RoofCoursesModel" "settings" "[I", .fieldLink RX9 16 "RoofCoursesModel" "readSettings" "[I", .fieldLink RX9 25 "RoofCoursesModel" "now" "[I", .fieldLink RX9 57 "RoofCoursesModel" "historySize" "I"] ++ wsX90)
def wsX9_init_r1 : List Cond := [Cond.methodLink RX9 1 objectInit, Cond.instanceMethod objectInit, Cond.code objectInit ⟨#[0xb1]⟩ 1 none, Cond.arrayClass .int, Cond.fieldLink RX9 7 "RoofCoursesModel" "text" "[I", Cond.fieldLink RX9 13 "RoofCoursesModel" "settings" "[I", Cond.fieldLink RX9 16 "RoofCoursesModel" "readSettings" "[I", Cond.fieldLink RX9 19 "RoofCoursesModel" "heaps" "[I", Cond.fieldLink RX9 22 "RoofCoursesModel" "readHeaps" "[I", Cond.fieldLink RX9 25 "RoofCoursesModel" "now" "[I", Cond.fieldLink RX9 28 "RoofCoursesModel" "saved" "[I", Cond.fieldLink RX9 31 "RoofCoursesModel" "history" "[I", Cond.fieldLink RX9 34 "RoofCoursesModel" "numbers" "[I", Cond.fieldLink RX9 37 "RoofCoursesModel" "joints" "[I", Cond.methodLink RX9 40 yX9_beginRead, Cond.instanceMethod yX9_beginRead, Cond.selects RX9 yX9_beginRead yX9_beginRead, Cond.initialized RX9, Cond.code yX9_beginRead cX9_beginRead 1 none, Cond.fieldLink RX9 50 "RoofCoursesModel" "readCount" "I", Cond.methodLink RX9 43 yX9_addHeap, Cond.instanceMethod yX9_addHeap, Cond.selects RX9 yX9_addHeap yX9_addHeap, Cond.code yX9_addHeap cX9_addHeap 5 (some .boolean)]
def wsX9_init_r2 : List Cond := [Cond.methodLink RX9 47 yX9_takeRead, Cond.instanceMethod yX9_takeRead, Cond.selects RX9 yX9_takeRead yX9_takeRead, Cond.code yX9_takeRead cX9_takeRead 5 none, Cond.fieldLink RX9 54 "RoofCoursesModel" "heapCount" "I", Cond.fieldLink RX9 57 "RoofCoursesModel" "historySize" "I"]
def wsX9_init : List Cond := .code yX9_init cX9_init 1 none :: ((wsX9_init_r1 ++ wsX9_init_r2) ++ wsX90)
def wsX9_in : List Cond := .code yX9_in cX9_in 3 (some .boolean) :: ([])
def wsX9_copyState : List Cond := .code yX9_copyState cX9_copyState 5 none :: ([])
def wsX9_isDigit : List Cond := .code yX9_isDigit cX9_isDigit 1 (some .boolean) :: ([.fieldLink RX9 60 "RoofCoursesModel" "at" "I", .fieldLink RX9 63 "RoofCoursesModel" "length" "I", .fieldLink RX9 7 "RoofCoursesModel" "text" "[I", .methodLink RX9 66 yX9_in, .static yX9_in, .initialized RX9, .code yX9_in cX9_in 3 (some .boolean)] ++ wsX90)
def wsX9_readNumbers : List Cond := .code yX9_readNumbers cX9_readNumbers 5 (some .boolean) :: ([.fieldLink RX9 60 "RoofCoursesModel" "at" "I", .fieldLink RX9 7 "RoofCoursesModel" "text" "[I", .fieldLink RX9 63 "RoofCoursesModel" "length" "I", .fieldLink RX9 34 "RoofCoursesModel" "numbers" "[I", .methodLink RX9 69 yX9_isDigit, .instanceMethod yX9_isDigit, .selects RX9 yX9_isDigit yX9_isDigit, .initialized RX9, .code yX9_isDigit cX9_isDigit 1 (some .boolean), .methodLink RX9 66 yX9_in, .static yX9_in, .code yX9_in cX9_in 3 (some .boolean)] ++ wsX90)
def wsX9_isNumber : List Cond := .code yX9_isNumber cX9_isNumber 4 (some .boolean) :: ([.fieldLink RX9 34 "RoofCoursesModel" "numbers" "[I", .methodLink RX9 66 yX9_in, .static yX9_in, .initialized RX9, .code yX9_in cX9_in 3 (some .boolean)] ++ wsX90)
def wsX9_setRead : List Cond := .code yX9_setRead cX9_setRead 4 none :: ([.fieldLink RX9 16 "RoofCoursesModel" "readSettings" "[I"] ++ wsX90)
def wsX9_readItem_r1 : List Cond := [Cond.fieldLink RX9 34 "RoofCoursesModel" "numbers" "[I", Cond.methodLink RX9 73 yX9_readNumbers, Cond.instanceMethod yX9_readNumbers, Cond.selects RX9 yX9_readNumbers yX9_readNumbers, Cond.initialized RX9, Cond.code yX9_readNumbers cX9_readNumbers 5 (some .boolean), Cond.fieldLink RX9 60 "RoofCoursesModel" "at" "I", Cond.fieldLink RX9 7 "RoofCoursesModel" "text" "[I", Cond.fieldLink RX9 63 "RoofCoursesModel" "length" "I", Cond.methodLink RX9 69 yX9_isDigit, Cond.instanceMethod yX9_isDigit, Cond.selects RX9 yX9_isDigit yX9_isDigit, Cond.code yX9_isDigit cX9_isDigit 1 (some .boolean), Cond.methodLink RX9 66 yX9_in, Cond.static yX9_in, Cond.code yX9_in cX9_in 3 (some .boolean), Cond.methodLink RX9 77 yX9_isNumber, Cond.instanceMethod yX9_isNumber, Cond.selects RX9 yX9_isNumber yX9_isNumber, Cond.code yX9_isNumber cX9_isNumber 4 (some .boolean), Cond.methodLink RX9 43 yX9_addHeap, Cond.instanceMethod yX9_addHeap, Cond.selects RX9 yX9_addHeap yX9_addHeap, Cond.code yX9_addHeap cX9_addHeap 5 (some .boolean)]
def wsX9_readItem_r2 : List Cond := [Cond.fieldLink RX9 50 "RoofCoursesModel" "readCount" "I", Cond.fieldLink RX9 22 "RoofCoursesModel" "readHeaps" "[I", Cond.methodLink RX9 80 yX9_setRead, Cond.instanceMethod yX9_setRead, Cond.selects RX9 yX9_setRead yX9_setRead, Cond.code yX9_setRead cX9_setRead 4 none, Cond.fieldLink RX9 16 "RoofCoursesModel" "readSettings" "[I"]
def wsX9_readItem : List Cond := .code yX9_readItem cX9_readItem 3 (some .boolean) :: ((wsX9_readItem_r1 ++ wsX9_readItem_r2) ++ wsX90)
def wsX9_parse_r1 : List Cond := [Cond.fieldLink RX9 60 "RoofCoursesModel" "at" "I", Cond.fieldLink RX9 63 "RoofCoursesModel" "length" "I", Cond.fieldLink RX9 7 "RoofCoursesModel" "text" "[I", Cond.methodLink RX9 40 yX9_beginRead, Cond.instanceMethod yX9_beginRead, Cond.selects RX9 yX9_beginRead yX9_beginRead, Cond.initialized RX9, Cond.code yX9_beginRead cX9_beginRead 1 none, Cond.fieldLink RX9 50 "RoofCoursesModel" "readCount" "I", Cond.fieldLink RX9 16 "RoofCoursesModel" "readSettings" "[I", Cond.methodLink RX9 84 yX9_readItem, Cond.instanceMethod yX9_readItem, Cond.selects RX9 yX9_readItem yX9_readItem, Cond.code yX9_readItem cX9_readItem 3 (some .boolean), Cond.fieldLink RX9 34 "RoofCoursesModel" "numbers" "[I", Cond.methodLink RX9 73 yX9_readNumbers, Cond.instanceMethod yX9_readNumbers, Cond.selects RX9 yX9_readNumbers yX9_readNumbers, Cond.code yX9_readNumbers cX9_readNumbers 5 (some .boolean), Cond.methodLink RX9 69 yX9_isDigit, Cond.instanceMethod yX9_isDigit, Cond.selects RX9 yX9_isDigit yX9_isDigit, Cond.code yX9_isDigit cX9_isDigit 1 (some .boolean), Cond.methodLink RX9 66 yX9_in]
def wsX9_parse_r2 : List Cond := [Cond.static yX9_in, Cond.code yX9_in cX9_in 3 (some .boolean), Cond.methodLink RX9 77 yX9_isNumber, Cond.instanceMethod yX9_isNumber, Cond.selects RX9 yX9_isNumber yX9_isNumber, Cond.code yX9_isNumber cX9_isNumber 4 (some .boolean), Cond.methodLink RX9 43 yX9_addHeap, Cond.instanceMethod yX9_addHeap, Cond.selects RX9 yX9_addHeap yX9_addHeap, Cond.code yX9_addHeap cX9_addHeap 5 (some .boolean), Cond.fieldLink RX9 22 "RoofCoursesModel" "readHeaps" "[I", Cond.methodLink RX9 80 yX9_setRead, Cond.instanceMethod yX9_setRead, Cond.selects RX9 yX9_setRead yX9_setRead, Cond.code yX9_setRead cX9_setRead 4 none]
def wsX9_parse : List Cond := .code yX9_parse cX9_parse 3 (some .int) :: ((wsX9_parse_r1 ++ wsX9_parse_r2) ++ wsX90)
def wsX9_write : List Cond := .code yX9_write cX9_write 2 (some .int) :: ([.fieldLink RX9 63 "RoofCoursesModel" "length" "I", .fieldLink RX9 7 "RoofCoursesModel" "text" "[I", .methodLink RX9 66 yX9_in, .static yX9_in, .initialized RX9, .code yX9_in cX9_in 3 (some .boolean)] ++ wsX90)
def wsX9_wipe : List Cond := .code yX9_wipe cX9_wipe 2 (some .int) :: ([.fieldLink RX9 63 "RoofCoursesModel" "length" "I"] ++ wsX90)
def wsX9_fault_r1 : List Cond := [Cond.methodLink RX9 87 yX9_parse, Cond.instanceMethod yX9_parse, Cond.selects RX9 yX9_parse yX9_parse, Cond.initialized RX9, Cond.code yX9_parse cX9_parse 3 (some .int), Cond.fieldLink RX9 60 "RoofCoursesModel" "at" "I", Cond.fieldLink RX9 63 "RoofCoursesModel" "length" "I", Cond.fieldLink RX9 7 "RoofCoursesModel" "text" "[I", Cond.methodLink RX9 40 yX9_beginRead, Cond.instanceMethod yX9_beginRead, Cond.selects RX9 yX9_beginRead yX9_beginRead, Cond.code yX9_beginRead cX9_beginRead 1 none, Cond.fieldLink RX9 50 "RoofCoursesModel" "readCount" "I", Cond.fieldLink RX9 16 "RoofCoursesModel" "readSettings" "[I", Cond.methodLink RX9 84 yX9_readItem, Cond.instanceMethod yX9_readItem, Cond.selects RX9 yX9_readItem yX9_readItem, Cond.code yX9_readItem cX9_readItem 3 (some .boolean), Cond.fieldLink RX9 34 "RoofCoursesModel" "numbers" "[I", Cond.methodLink RX9 73 yX9_readNumbers, Cond.instanceMethod yX9_readNumbers, Cond.selects RX9 yX9_readNumbers yX9_readNumbers, Cond.code yX9_readNumbers cX9_readNumbers 5 (some .boolean), Cond.methodLink RX9 69 yX9_isDigit]
def wsX9_fault_r2 : List Cond := [Cond.instanceMethod yX9_isDigit, Cond.selects RX9 yX9_isDigit yX9_isDigit, Cond.code yX9_isDigit cX9_isDigit 1 (some .boolean), Cond.methodLink RX9 66 yX9_in, Cond.static yX9_in, Cond.code yX9_in cX9_in 3 (some .boolean), Cond.methodLink RX9 77 yX9_isNumber, Cond.instanceMethod yX9_isNumber, Cond.selects RX9 yX9_isNumber yX9_isNumber, Cond.code yX9_isNumber cX9_isNumber 4 (some .boolean), Cond.methodLink RX9 43 yX9_addHeap, Cond.instanceMethod yX9_addHeap, Cond.selects RX9 yX9_addHeap yX9_addHeap, Cond.code yX9_addHeap cX9_addHeap 5 (some .boolean), Cond.fieldLink RX9 22 "RoofCoursesModel" "readHeaps" "[I", Cond.methodLink RX9 80 yX9_setRead, Cond.instanceMethod yX9_setRead, Cond.selects RX9 yX9_setRead yX9_setRead, Cond.code yX9_setRead cX9_setRead 4 none]
def wsX9_fault : List Cond := .code yX9_fault cX9_fault 1 (some .int) :: ((wsX9_fault_r1 ++ wsX9_fault_r2) ++ wsX90)
def wsX9_lay_r1 : List Cond := [Cond.fieldLink RX9 50 "RoofCoursesModel" "readCount" "I", Cond.fieldLink RX9 54 "RoofCoursesModel" "heapCount" "I", Cond.methodLink RX9 87 yX9_parse, Cond.instanceMethod yX9_parse, Cond.selects RX9 yX9_parse yX9_parse, Cond.initialized RX9, Cond.code yX9_parse cX9_parse 3 (some .int), Cond.fieldLink RX9 60 "RoofCoursesModel" "at" "I", Cond.fieldLink RX9 63 "RoofCoursesModel" "length" "I", Cond.fieldLink RX9 7 "RoofCoursesModel" "text" "[I", Cond.methodLink RX9 40 yX9_beginRead, Cond.instanceMethod yX9_beginRead, Cond.selects RX9 yX9_beginRead yX9_beginRead, Cond.code yX9_beginRead cX9_beginRead 1 none, Cond.fieldLink RX9 16 "RoofCoursesModel" "readSettings" "[I", Cond.methodLink RX9 84 yX9_readItem, Cond.instanceMethod yX9_readItem, Cond.selects RX9 yX9_readItem yX9_readItem, Cond.code yX9_readItem cX9_readItem 3 (some .boolean), Cond.fieldLink RX9 34 "RoofCoursesModel" "numbers" "[I", Cond.methodLink RX9 73 yX9_readNumbers, Cond.instanceMethod yX9_readNumbers, Cond.selects RX9 yX9_readNumbers yX9_readNumbers, Cond.code yX9_readNumbers cX9_readNumbers 5 (some .boolean)]
def wsX9_lay_r2 : List Cond := [Cond.methodLink RX9 69 yX9_isDigit, Cond.instanceMethod yX9_isDigit, Cond.selects RX9 yX9_isDigit yX9_isDigit, Cond.code yX9_isDigit cX9_isDigit 1 (some .boolean), Cond.methodLink RX9 66 yX9_in, Cond.static yX9_in, Cond.code yX9_in cX9_in 3 (some .boolean), Cond.methodLink RX9 77 yX9_isNumber, Cond.instanceMethod yX9_isNumber, Cond.selects RX9 yX9_isNumber yX9_isNumber, Cond.code yX9_isNumber cX9_isNumber 4 (some .boolean), Cond.methodLink RX9 43 yX9_addHeap, Cond.instanceMethod yX9_addHeap, Cond.selects RX9 yX9_addHeap yX9_addHeap, Cond.code yX9_addHeap cX9_addHeap 5 (some .boolean), Cond.fieldLink RX9 22 "RoofCoursesModel" "readHeaps" "[I", Cond.methodLink RX9 80 yX9_setRead, Cond.instanceMethod yX9_setRead, Cond.selects RX9 yX9_setRead yX9_setRead, Cond.code yX9_setRead cX9_setRead 4 none, Cond.methodLink RX9 47 yX9_takeRead, Cond.instanceMethod yX9_takeRead, Cond.selects RX9 yX9_takeRead yX9_takeRead, Cond.code yX9_takeRead cX9_takeRead 5 none]
def wsX9_lay_r3 : List Cond := [Cond.fieldLink RX9 19 "RoofCoursesModel" "heaps" "[I", Cond.fieldLink RX9 13 "RoofCoursesModel" "settings" "[I", Cond.fieldLink RX9 25 "RoofCoursesModel" "now" "[I", Cond.fieldLink RX9 57 "RoofCoursesModel" "historySize" "I"]
def wsX9_lay : List Cond := .code yX9_lay cX9_lay 1 (some .int) :: ((wsX9_lay_r1 ++ (wsX9_lay_r2 ++ wsX9_lay_r3)) ++ wsX90)
def wsX9_heapLength : List Cond := .code yX9_heapLength cX9_heapLength 2 (some .int) :: ([.fieldLink RX9 19 "RoofCoursesModel" "heaps" "[I"] ++ wsX90)
def wsX9_breadth : List Cond := .code yX9_breadth cX9_breadth 2 (some .int) :: ([.fieldLink RX9 19 "RoofCoursesModel" "heaps" "[I"] ++ wsX90)
def wsX9_courseLength : List Cond := .code yX9_courseLength cX9_courseLength 2 (some .int) :: ([.fieldLink RX9 25 "RoofCoursesModel" "now" "[I"] ++ wsX90)
def wsX9_slateCount : List Cond := .code yX9_slateCount cX9_slateCount 2 (some .int) :: ([.fieldLink RX9 25 "RoofCoursesModel" "now" "[I"] ++ wsX90)
def wsX9_slateOf : List Cond := .code yX9_slateOf cX9_slateOf 3 (some .int) :: ([.fieldLink RX9 25 "RoofCoursesModel" "now" "[I"] ++ wsX90)
def wsX9_gauge : List Cond := .code yX9_gauge cX9_gauge 2 (some .int) :: ([.fieldLink RX9 13 "RoofCoursesModel" "settings" "[I"] ++ wsX90)
def wsX9_foot : List Cond := .code yX9_foot cX9_foot 4 (some .int) :: ([.methodLink RX9 91 yX9_courseLength, .instanceMethod yX9_courseLength, .selects RX9 yX9_courseLength yX9_courseLength, .initialized RX9, .code yX9_courseLength cX9_courseLength 2 (some .int), .fieldLink RX9 25 "RoofCoursesModel" "now" "[I", .methodLink RX9 95 yX9_gauge, .instanceMethod yX9_gauge, .selects RX9 yX9_gauge yX9_gauge, .code yX9_gauge cX9_gauge 2 (some .int), .fieldLink RX9 13 "RoofCoursesModel" "settings" "[I"] ++ wsX90)
def wsX9_room : List Cond := .code yX9_room cX9_room 3 (some .int) :: ([.fieldLink RX9 13 "RoofCoursesModel" "settings" "[I", .methodLink RX9 98 yX9_foot, .instanceMethod yX9_foot, .selects RX9 yX9_foot yX9_foot, .initialized RX9, .code yX9_foot cX9_foot 4 (some .int), .methodLink RX9 91 yX9_courseLength, .instanceMethod yX9_courseLength, .selects RX9 yX9_courseLength yX9_courseLength, .code yX9_courseLength cX9_courseLength 2 (some .int), .fieldLink RX9 25 "RoofCoursesModel" "now" "[I", .methodLink RX9 95 yX9_gauge, .instanceMethod yX9_gauge, .selects RX9 yX9_gauge yX9_gauge, .code yX9_gauge cX9_gauge 2 (some .int)] ++ wsX90)
def wsX9_isReady : List Cond := .code yX9_isReady cX9_isReady 1 (some .boolean) :: ([.fieldLink RX9 25 "RoofCoursesModel" "now" "[I", .fieldLink RX9 13 "RoofCoursesModel" "settings" "[I", .methodLink RX9 98 yX9_foot, .instanceMethod yX9_foot, .selects RX9 yX9_foot yX9_foot, .initialized RX9, .code yX9_foot cX9_foot 4 (some .int), .methodLink RX9 91 yX9_courseLength, .instanceMethod yX9_courseLength, .selects RX9 yX9_courseLength yX9_courseLength, .code yX9_courseLength cX9_courseLength 2 (some .int), .methodLink RX9 95 yX9_gauge, .instanceMethod yX9_gauge, .selects RX9 yX9_gauge yX9_gauge, .code yX9_gauge cX9_gauge 2 (some .int)] ++ wsX90)
def wsX9_waste : List Cond := .code yX9_waste cX9_waste 4 (some .int) :: ([.methodLink RX9 101 yX9_slateCount, .instanceMethod yX9_slateCount, .selects RX9 yX9_slateCount yX9_slateCount, .initialized RX9, .code yX9_slateCount cX9_slateCount 2 (some .int), .fieldLink RX9 25 "RoofCoursesModel" "now" "[I", .methodLink RX9 104 yX9_slateOf, .instanceMethod yX9_slateOf, .selects RX9 yX9_slateOf yX9_slateOf, .code yX9_slateOf cX9_slateOf 3 (some .int), .methodLink RX9 108 yX9_breadth, .instanceMethod yX9_breadth, .selects RX9 yX9_breadth yX9_breadth, .code yX9_breadth cX9_breadth 2 (some .int), .fieldLink RX9 19 "RoofCoursesModel" "heaps" "[I", .methodLink RX9 91 yX9_courseLength, .instanceMethod yX9_courseLength, .selects RX9 yX9_courseLength yX9_courseLength, .code yX9_courseLength cX9_courseLength 2 (some .int)] ++ wsX90)
def wsX9_cutCount : List Cond := .code yX9_cutCount cX9_cutCount 4 (some .int) :: ([.methodLink RX9 101 yX9_slateCount, .instanceMethod yX9_slateCount, .selects RX9 yX9_slateCount yX9_slateCount, .initialized RX9, .code yX9_slateCount cX9_slateCount 2 (some .int), .fieldLink RX9 25 "RoofCoursesModel" "now" "[I", .methodLink RX9 104 yX9_slateOf, .instanceMethod yX9_slateOf, .selects RX9 yX9_slateOf yX9_slateOf, .code yX9_slateOf cX9_slateOf 3 (some .int), .methodLink RX9 108 yX9_breadth, .instanceMethod yX9_breadth, .selects RX9 yX9_breadth yX9_breadth, .code yX9_breadth cX9_breadth 2 (some .int), .fieldLink RX9 19 "RoofCoursesModel" "heaps" "[I"] ++ wsX90)
def wsX9_findJoints : List Cond := .code yX9_findJoints cX9_findJoints 4 none :: ([.fieldLink RX9 111 "RoofCoursesModel" "jointCount" "I", .fieldLink RX9 37 "RoofCoursesModel" "joints" "[I", .methodLink RX9 101 yX9_slateCount, .instanceMethod yX9_slateCount, .selects RX9 yX9_slateCount yX9_slateCount, .initialized RX9, .code yX9_slateCount cX9_slateCount 2 (some .int), .fieldLink RX9 25 "RoofCoursesModel" "now" "[I", .methodLink RX9 104 yX9_slateOf, .instanceMethod yX9_slateOf, .selects RX9 yX9_slateOf yX9_slateOf, .code yX9_slateOf cX9_slateOf 3 (some .int)] ++ wsX90)
def wsX9_isBroken : List Cond := .code yX9_isBroken cX9_isBroken 5 (some .boolean) :: ([.fieldLink RX9 111 "RoofCoursesModel" "jointCount" "I", .fieldLink RX9 37 "RoofCoursesModel" "joints" "[I", .fieldLink RX9 13 "RoofCoursesModel" "settings" "[I"] ++ wsX90)
def wsX9_choose : List Cond := .code yX9_choose cX9_choose 10 (some .boolean) :: ([.fieldLink RX9 54 "RoofCoursesModel" "heapCount" "I", .fieldLink RX9 25 "RoofCoursesModel" "now" "[I", .fieldLink RX9 120 "RoofCoursesModel" "chosen" "I", .fieldLink RX9 123 "RoofCoursesModel" "visible" "I", .methodLink RX9 114 yX9_heapLength, .instanceMethod yX9_heapLength, .selects RX9 yX9_heapLength yX9_heapLength, .initialized RX9, .code yX9_heapLength cX9_heapLength 2 (some .int), .fieldLink RX9 19 "RoofCoursesModel" "heaps" "[I", .methodLink RX9 108 yX9_breadth, .instanceMethod yX9_breadth, .selects RX9 yX9_breadth yX9_breadth, .code yX9_breadth cX9_breadth 2 (some .int), .methodLink RX9 117 yX9_isBroken, .instanceMethod yX9_isBroken, .selects RX9 yX9_isBroken yX9_isBroken, .code yX9_isBroken cX9_isBroken 5 (some .boolean), .fieldLink RX9 111 "RoofCoursesModel" "jointCount" "I", .fieldLink RX9 37 "RoofCoursesModel" "joints" "[I", .fieldLink RX9 13 "RoofCoursesModel" "settings" "[I"] ++ wsX90)
def wsX9_fill_r1 : List Cond := [Cond.fieldLink RX9 25 "RoofCoursesModel" "now" "[I", Cond.fieldLink RX9 120 "RoofCoursesModel" "chosen" "I", Cond.fieldLink RX9 123 "RoofCoursesModel" "visible" "I", Cond.methodLink RX9 126 yX9_room, Cond.instanceMethod yX9_room, Cond.selects RX9 yX9_room yX9_room, Cond.initialized RX9, Cond.code yX9_room cX9_room 3 (some .int), Cond.fieldLink RX9 13 "RoofCoursesModel" "settings" "[I", Cond.methodLink RX9 98 yX9_foot, Cond.instanceMethod yX9_foot, Cond.selects RX9 yX9_foot yX9_foot, Cond.code yX9_foot cX9_foot 4 (some .int), Cond.methodLink RX9 91 yX9_courseLength, Cond.instanceMethod yX9_courseLength, Cond.selects RX9 yX9_courseLength yX9_courseLength, Cond.code yX9_courseLength cX9_courseLength 2 (some .int), Cond.methodLink RX9 95 yX9_gauge, Cond.instanceMethod yX9_gauge, Cond.selects RX9 yX9_gauge yX9_gauge, Cond.code yX9_gauge cX9_gauge 2 (some .int), Cond.methodLink RX9 129 yX9_findJoints, Cond.instanceMethod yX9_findJoints, Cond.selects RX9 yX9_findJoints yX9_findJoints]
def wsX9_fill_r2 : List Cond := [Cond.code yX9_findJoints cX9_findJoints 4 none, Cond.fieldLink RX9 111 "RoofCoursesModel" "jointCount" "I", Cond.fieldLink RX9 37 "RoofCoursesModel" "joints" "[I", Cond.methodLink RX9 101 yX9_slateCount, Cond.instanceMethod yX9_slateCount, Cond.selects RX9 yX9_slateCount yX9_slateCount, Cond.code yX9_slateCount cX9_slateCount 2 (some .int), Cond.methodLink RX9 104 yX9_slateOf, Cond.instanceMethod yX9_slateOf, Cond.selects RX9 yX9_slateOf yX9_slateOf, Cond.code yX9_slateOf cX9_slateOf 3 (some .int), Cond.methodLink RX9 133 yX9_choose, Cond.instanceMethod yX9_choose, Cond.selects RX9 yX9_choose yX9_choose, Cond.code yX9_choose cX9_choose 10 (some .boolean), Cond.fieldLink RX9 54 "RoofCoursesModel" "heapCount" "I", Cond.methodLink RX9 114 yX9_heapLength, Cond.instanceMethod yX9_heapLength, Cond.selects RX9 yX9_heapLength yX9_heapLength, Cond.code yX9_heapLength cX9_heapLength 2 (some .int), Cond.fieldLink RX9 19 "RoofCoursesModel" "heaps" "[I", Cond.methodLink RX9 108 yX9_breadth, Cond.instanceMethod yX9_breadth, Cond.selects RX9 yX9_breadth yX9_breadth]
def wsX9_fill_r3 : List Cond := [Cond.code yX9_breadth cX9_breadth 2 (some .int), Cond.methodLink RX9 117 yX9_isBroken, Cond.instanceMethod yX9_isBroken, Cond.selects RX9 yX9_isBroken yX9_isBroken, Cond.code yX9_isBroken cX9_isBroken 5 (some .boolean)]
def wsX9_fill : List Cond := .code yX9_fill cX9_fill 6 (some .boolean) :: ((wsX9_fill_r1 ++ (wsX9_fill_r2 ++ wsX9_fill_r3)) ++ wsX90)
def wsX9_giveBack : List Cond := .code yX9_giveBack cX9_giveBack 3 none :: ([.fieldLink RX9 25 "RoofCoursesModel" "now" "[I", .methodLink RX9 101 yX9_slateCount, .instanceMethod yX9_slateCount, .selects RX9 yX9_slateCount yX9_slateCount, .initialized RX9, .code yX9_slateCount cX9_slateCount 2 (some .int), .methodLink RX9 104 yX9_slateOf, .instanceMethod yX9_slateOf, .selects RX9 yX9_slateOf yX9_slateOf, .code yX9_slateOf cX9_slateOf 3 (some .int)] ++ wsX90)
def wsX9_mayBegin_r1 : List Cond := [Cond.fieldLink RX9 54 "RoofCoursesModel" "heapCount" "I", Cond.fieldLink RX9 25 "RoofCoursesModel" "now" "[I", Cond.methodLink RX9 114 yX9_heapLength, Cond.instanceMethod yX9_heapLength, Cond.selects RX9 yX9_heapLength yX9_heapLength, Cond.initialized RX9, Cond.code yX9_heapLength cX9_heapLength 2 (some .int), Cond.fieldLink RX9 19 "RoofCoursesModel" "heaps" "[I", Cond.methodLink RX9 136 yX9_isReady, Cond.instanceMethod yX9_isReady, Cond.selects RX9 yX9_isReady yX9_isReady, Cond.code yX9_isReady cX9_isReady 1 (some .boolean), Cond.fieldLink RX9 13 "RoofCoursesModel" "settings" "[I", Cond.methodLink RX9 98 yX9_foot, Cond.instanceMethod yX9_foot, Cond.selects RX9 yX9_foot yX9_foot, Cond.code yX9_foot cX9_foot 4 (some .int), Cond.methodLink RX9 91 yX9_courseLength, Cond.instanceMethod yX9_courseLength, Cond.selects RX9 yX9_courseLength yX9_courseLength, Cond.code yX9_courseLength cX9_courseLength 2 (some .int), Cond.methodLink RX9 95 yX9_gauge, Cond.instanceMethod yX9_gauge, Cond.selects RX9 yX9_gauge yX9_gauge]
def wsX9_mayBegin_r2 : List Cond := [Cond.code yX9_gauge cX9_gauge 2 (some .int)]
def wsX9_mayBegin : List Cond := .code yX9_mayBegin cX9_mayBegin 4 (some .boolean) :: ((wsX9_mayBegin_r1 ++ wsX9_mayBegin_r2) ++ wsX90)
def wsX9_layCourse_r1 : List Cond := [Cond.fieldLink RX9 25 "RoofCoursesModel" "now" "[I", Cond.methodLink RX9 139 yX9_mayBegin, Cond.instanceMethod yX9_mayBegin, Cond.selects RX9 yX9_mayBegin yX9_mayBegin, Cond.initialized RX9, Cond.code yX9_mayBegin cX9_mayBegin 4 (some .boolean), Cond.fieldLink RX9 54 "RoofCoursesModel" "heapCount" "I", Cond.methodLink RX9 114 yX9_heapLength, Cond.instanceMethod yX9_heapLength, Cond.selects RX9 yX9_heapLength yX9_heapLength, Cond.code yX9_heapLength cX9_heapLength 2 (some .int), Cond.fieldLink RX9 19 "RoofCoursesModel" "heaps" "[I", Cond.methodLink RX9 136 yX9_isReady, Cond.instanceMethod yX9_isReady, Cond.selects RX9 yX9_isReady yX9_isReady, Cond.code yX9_isReady cX9_isReady 1 (some .boolean), Cond.fieldLink RX9 13 "RoofCoursesModel" "settings" "[I", Cond.methodLink RX9 98 yX9_foot, Cond.instanceMethod yX9_foot, Cond.selects RX9 yX9_foot yX9_foot, Cond.code yX9_foot cX9_foot 4 (some .int), Cond.methodLink RX9 91 yX9_courseLength, Cond.instanceMethod yX9_courseLength, Cond.selects RX9 yX9_courseLength yX9_courseLength]
def wsX9_layCourse_r2 : List Cond := [Cond.code yX9_courseLength cX9_courseLength 2 (some .int), Cond.methodLink RX9 95 yX9_gauge, Cond.instanceMethod yX9_gauge, Cond.selects RX9 yX9_gauge yX9_gauge, Cond.code yX9_gauge cX9_gauge 2 (some .int), Cond.methodLink RX9 142 yX9_fill, Cond.instanceMethod yX9_fill, Cond.selects RX9 yX9_fill yX9_fill, Cond.code yX9_fill cX9_fill 6 (some .boolean), Cond.fieldLink RX9 120 "RoofCoursesModel" "chosen" "I", Cond.fieldLink RX9 123 "RoofCoursesModel" "visible" "I", Cond.methodLink RX9 126 yX9_room, Cond.instanceMethod yX9_room, Cond.selects RX9 yX9_room yX9_room, Cond.code yX9_room cX9_room 3 (some .int), Cond.methodLink RX9 129 yX9_findJoints, Cond.instanceMethod yX9_findJoints, Cond.selects RX9 yX9_findJoints yX9_findJoints, Cond.code yX9_findJoints cX9_findJoints 4 none, Cond.fieldLink RX9 111 "RoofCoursesModel" "jointCount" "I", Cond.fieldLink RX9 37 "RoofCoursesModel" "joints" "[I", Cond.methodLink RX9 101 yX9_slateCount, Cond.instanceMethod yX9_slateCount, Cond.selects RX9 yX9_slateCount yX9_slateCount]
def wsX9_layCourse_r3 : List Cond := [Cond.code yX9_slateCount cX9_slateCount 2 (some .int), Cond.methodLink RX9 104 yX9_slateOf, Cond.instanceMethod yX9_slateOf, Cond.selects RX9 yX9_slateOf yX9_slateOf, Cond.code yX9_slateOf cX9_slateOf 3 (some .int), Cond.methodLink RX9 133 yX9_choose, Cond.instanceMethod yX9_choose, Cond.selects RX9 yX9_choose yX9_choose, Cond.code yX9_choose cX9_choose 10 (some .boolean), Cond.methodLink RX9 108 yX9_breadth, Cond.instanceMethod yX9_breadth, Cond.selects RX9 yX9_breadth yX9_breadth, Cond.code yX9_breadth cX9_breadth 2 (some .int), Cond.methodLink RX9 117 yX9_isBroken, Cond.instanceMethod yX9_isBroken, Cond.selects RX9 yX9_isBroken yX9_isBroken, Cond.code yX9_isBroken cX9_isBroken 5 (some .boolean), Cond.methodLink RX9 145 yX9_giveBack, Cond.instanceMethod yX9_giveBack, Cond.selects RX9 yX9_giveBack yX9_giveBack, Cond.code yX9_giveBack cX9_giveBack 3 none]
def wsX9_layCourse : List Cond := .code yX9_layCourse cX9_layCourse 2 (some .boolean) :: ((wsX9_layCourse_r1 ++ (wsX9_layCourse_r2 ++ wsX9_layCourse_r3)) ++ wsX90)
def wsX9_takeUp : List Cond := .code yX9_takeUp cX9_takeUp 1 none :: ([.fieldLink RX9 25 "RoofCoursesModel" "now" "[I", .methodLink RX9 145 yX9_giveBack, .instanceMethod yX9_giveBack, .selects RX9 yX9_giveBack yX9_giveBack, .initialized RX9, .code yX9_giveBack cX9_giveBack 3 none, .methodLink RX9 101 yX9_slateCount, .instanceMethod yX9_slateCount, .selects RX9 yX9_slateCount yX9_slateCount, .code yX9_slateCount cX9_slateCount 2 (some .int), .methodLink RX9 104 yX9_slateOf, .instanceMethod yX9_slateOf, .selects RX9 yX9_slateOf yX9_slateOf, .code yX9_slateOf cX9_slateOf 3 (some .int)] ++ wsX90)
def wsX9_save : List Cond := .code yX9_save cX9_save 2 none :: ([.fieldLink RX9 57 "RoofCoursesModel" "historySize" "I", .fieldLink RX9 31 "RoofCoursesModel" "history" "[I", .fieldLink RX9 25 "RoofCoursesModel" "now" "[I", .methodLink RX9 148 yX9_copyState, .static yX9_copyState, .initialized RX9, .code yX9_copyState cX9_copyState 5 none] ++ wsX90)
def wsX9_canLay_r1 : List Cond := [Cond.methodLink RX9 152 yX9_layCourse, Cond.instanceMethod yX9_layCourse, Cond.selects RX9 yX9_layCourse yX9_layCourse, Cond.initialized RX9, Cond.code yX9_layCourse cX9_layCourse 2 (some .boolean), Cond.fieldLink RX9 25 "RoofCoursesModel" "now" "[I", Cond.methodLink RX9 139 yX9_mayBegin, Cond.instanceMethod yX9_mayBegin, Cond.selects RX9 yX9_mayBegin yX9_mayBegin, Cond.code yX9_mayBegin cX9_mayBegin 4 (some .boolean), Cond.fieldLink RX9 54 "RoofCoursesModel" "heapCount" "I", Cond.methodLink RX9 114 yX9_heapLength, Cond.instanceMethod yX9_heapLength, Cond.selects RX9 yX9_heapLength yX9_heapLength, Cond.code yX9_heapLength cX9_heapLength 2 (some .int), Cond.fieldLink RX9 19 "RoofCoursesModel" "heaps" "[I", Cond.methodLink RX9 136 yX9_isReady, Cond.instanceMethod yX9_isReady, Cond.selects RX9 yX9_isReady yX9_isReady, Cond.code yX9_isReady cX9_isReady 1 (some .boolean), Cond.fieldLink RX9 13 "RoofCoursesModel" "settings" "[I", Cond.methodLink RX9 98 yX9_foot, Cond.instanceMethod yX9_foot, Cond.selects RX9 yX9_foot yX9_foot]
def wsX9_canLay_r2 : List Cond := [Cond.code yX9_foot cX9_foot 4 (some .int), Cond.methodLink RX9 91 yX9_courseLength, Cond.instanceMethod yX9_courseLength, Cond.selects RX9 yX9_courseLength yX9_courseLength, Cond.code yX9_courseLength cX9_courseLength 2 (some .int), Cond.methodLink RX9 95 yX9_gauge, Cond.instanceMethod yX9_gauge, Cond.selects RX9 yX9_gauge yX9_gauge, Cond.code yX9_gauge cX9_gauge 2 (some .int), Cond.methodLink RX9 142 yX9_fill, Cond.instanceMethod yX9_fill, Cond.selects RX9 yX9_fill yX9_fill, Cond.code yX9_fill cX9_fill 6 (some .boolean), Cond.fieldLink RX9 120 "RoofCoursesModel" "chosen" "I", Cond.fieldLink RX9 123 "RoofCoursesModel" "visible" "I", Cond.methodLink RX9 126 yX9_room, Cond.instanceMethod yX9_room, Cond.selects RX9 yX9_room yX9_room, Cond.code yX9_room cX9_room 3 (some .int), Cond.methodLink RX9 129 yX9_findJoints, Cond.instanceMethod yX9_findJoints, Cond.selects RX9 yX9_findJoints yX9_findJoints, Cond.code yX9_findJoints cX9_findJoints 4 none, Cond.fieldLink RX9 111 "RoofCoursesModel" "jointCount" "I"]
def wsX9_canLay_r3 : List Cond := [Cond.fieldLink RX9 37 "RoofCoursesModel" "joints" "[I", Cond.methodLink RX9 101 yX9_slateCount, Cond.instanceMethod yX9_slateCount, Cond.selects RX9 yX9_slateCount yX9_slateCount, Cond.code yX9_slateCount cX9_slateCount 2 (some .int), Cond.methodLink RX9 104 yX9_slateOf, Cond.instanceMethod yX9_slateOf, Cond.selects RX9 yX9_slateOf yX9_slateOf, Cond.code yX9_slateOf cX9_slateOf 3 (some .int), Cond.methodLink RX9 133 yX9_choose, Cond.instanceMethod yX9_choose, Cond.selects RX9 yX9_choose yX9_choose, Cond.code yX9_choose cX9_choose 10 (some .boolean), Cond.methodLink RX9 108 yX9_breadth, Cond.instanceMethod yX9_breadth, Cond.selects RX9 yX9_breadth yX9_breadth, Cond.code yX9_breadth cX9_breadth 2 (some .int), Cond.methodLink RX9 117 yX9_isBroken, Cond.instanceMethod yX9_isBroken, Cond.selects RX9 yX9_isBroken yX9_isBroken, Cond.code yX9_isBroken cX9_isBroken 5 (some .boolean), Cond.methodLink RX9 145 yX9_giveBack, Cond.instanceMethod yX9_giveBack, Cond.selects RX9 yX9_giveBack yX9_giveBack]
def wsX9_canLay_r4 : List Cond := [Cond.code yX9_giveBack cX9_giveBack 3 none, Cond.methodLink RX9 155 yX9_takeUp, Cond.instanceMethod yX9_takeUp, Cond.selects RX9 yX9_takeUp yX9_takeUp, Cond.code yX9_takeUp cX9_takeUp 1 none]
def wsX9_canLay : List Cond := .code yX9_canLay cX9_canLay 3 (some .boolean) :: ((wsX9_canLay_r1 ++ (wsX9_canLay_r2 ++ (wsX9_canLay_r3 ++ wsX9_canLay_r4))) ++ wsX90)
def wsX9_course_r1 : List Cond := [Cond.fieldLink RX9 25 "RoofCoursesModel" "now" "[I", Cond.methodLink RX9 66 yX9_in, Cond.static yX9_in, Cond.initialized RX9, Cond.code yX9_in cX9_in 3 (some .boolean), Cond.methodLink RX9 158 yX9_canLay, Cond.instanceMethod yX9_canLay, Cond.selects RX9 yX9_canLay yX9_canLay, Cond.code yX9_canLay cX9_canLay 3 (some .boolean), Cond.methodLink RX9 152 yX9_layCourse, Cond.instanceMethod yX9_layCourse, Cond.selects RX9 yX9_layCourse yX9_layCourse, Cond.code yX9_layCourse cX9_layCourse 2 (some .boolean), Cond.methodLink RX9 139 yX9_mayBegin, Cond.instanceMethod yX9_mayBegin, Cond.selects RX9 yX9_mayBegin yX9_mayBegin, Cond.code yX9_mayBegin cX9_mayBegin 4 (some .boolean), Cond.fieldLink RX9 54 "RoofCoursesModel" "heapCount" "I", Cond.methodLink RX9 114 yX9_heapLength, Cond.instanceMethod yX9_heapLength, Cond.selects RX9 yX9_heapLength yX9_heapLength, Cond.code yX9_heapLength cX9_heapLength 2 (some .int), Cond.fieldLink RX9 19 "RoofCoursesModel" "heaps" "[I", Cond.methodLink RX9 136 yX9_isReady]
def wsX9_course_r2 : List Cond := [Cond.instanceMethod yX9_isReady, Cond.selects RX9 yX9_isReady yX9_isReady, Cond.code yX9_isReady cX9_isReady 1 (some .boolean), Cond.fieldLink RX9 13 "RoofCoursesModel" "settings" "[I", Cond.methodLink RX9 98 yX9_foot, Cond.instanceMethod yX9_foot, Cond.selects RX9 yX9_foot yX9_foot, Cond.code yX9_foot cX9_foot 4 (some .int), Cond.methodLink RX9 91 yX9_courseLength, Cond.instanceMethod yX9_courseLength, Cond.selects RX9 yX9_courseLength yX9_courseLength, Cond.code yX9_courseLength cX9_courseLength 2 (some .int), Cond.methodLink RX9 95 yX9_gauge, Cond.instanceMethod yX9_gauge, Cond.selects RX9 yX9_gauge yX9_gauge, Cond.code yX9_gauge cX9_gauge 2 (some .int), Cond.methodLink RX9 142 yX9_fill, Cond.instanceMethod yX9_fill, Cond.selects RX9 yX9_fill yX9_fill, Cond.code yX9_fill cX9_fill 6 (some .boolean), Cond.fieldLink RX9 120 "RoofCoursesModel" "chosen" "I", Cond.fieldLink RX9 123 "RoofCoursesModel" "visible" "I", Cond.methodLink RX9 126 yX9_room, Cond.instanceMethod yX9_room]
def wsX9_course_r3 : List Cond := [Cond.selects RX9 yX9_room yX9_room, Cond.code yX9_room cX9_room 3 (some .int), Cond.methodLink RX9 129 yX9_findJoints, Cond.instanceMethod yX9_findJoints, Cond.selects RX9 yX9_findJoints yX9_findJoints, Cond.code yX9_findJoints cX9_findJoints 4 none, Cond.fieldLink RX9 111 "RoofCoursesModel" "jointCount" "I", Cond.fieldLink RX9 37 "RoofCoursesModel" "joints" "[I", Cond.methodLink RX9 101 yX9_slateCount, Cond.instanceMethod yX9_slateCount, Cond.selects RX9 yX9_slateCount yX9_slateCount, Cond.code yX9_slateCount cX9_slateCount 2 (some .int), Cond.methodLink RX9 104 yX9_slateOf, Cond.instanceMethod yX9_slateOf, Cond.selects RX9 yX9_slateOf yX9_slateOf, Cond.code yX9_slateOf cX9_slateOf 3 (some .int), Cond.methodLink RX9 133 yX9_choose, Cond.instanceMethod yX9_choose, Cond.selects RX9 yX9_choose yX9_choose, Cond.code yX9_choose cX9_choose 10 (some .boolean), Cond.methodLink RX9 108 yX9_breadth, Cond.instanceMethod yX9_breadth, Cond.selects RX9 yX9_breadth yX9_breadth, Cond.code yX9_breadth cX9_breadth 2 (some .int)]
def wsX9_course_r4 : List Cond := [Cond.methodLink RX9 117 yX9_isBroken, Cond.instanceMethod yX9_isBroken, Cond.selects RX9 yX9_isBroken yX9_isBroken, Cond.code yX9_isBroken cX9_isBroken 5 (some .boolean), Cond.methodLink RX9 145 yX9_giveBack, Cond.instanceMethod yX9_giveBack, Cond.selects RX9 yX9_giveBack yX9_giveBack, Cond.code yX9_giveBack cX9_giveBack 3 none, Cond.methodLink RX9 155 yX9_takeUp, Cond.instanceMethod yX9_takeUp, Cond.selects RX9 yX9_takeUp yX9_takeUp, Cond.code yX9_takeUp cX9_takeUp 1 none, Cond.methodLink RX9 161 yX9_save, Cond.instanceMethod yX9_save, Cond.selects RX9 yX9_save yX9_save, Cond.code yX9_save cX9_save 2 none, Cond.fieldLink RX9 57 "RoofCoursesModel" "historySize" "I", Cond.fieldLink RX9 31 "RoofCoursesModel" "history" "[I", Cond.methodLink RX9 148 yX9_copyState, Cond.static yX9_copyState, Cond.code yX9_copyState cX9_copyState 5 none]
def wsX9_course : List Cond := .code yX9_course cX9_course 3 (some .int) :: ((wsX9_course_r1 ++ (wsX9_course_r2 ++ (wsX9_course_r3 ++ wsX9_course_r4))) ++ wsX90)
def wsX9_up_r1 : List Cond := [Cond.fieldLink RX9 25 "RoofCoursesModel" "now" "[I", Cond.methodLink RX9 161 yX9_save, Cond.instanceMethod yX9_save, Cond.selects RX9 yX9_save yX9_save, Cond.initialized RX9, Cond.code yX9_save cX9_save 2 none, Cond.fieldLink RX9 57 "RoofCoursesModel" "historySize" "I", Cond.fieldLink RX9 31 "RoofCoursesModel" "history" "[I", Cond.methodLink RX9 148 yX9_copyState, Cond.static yX9_copyState, Cond.code yX9_copyState cX9_copyState 5 none, Cond.methodLink RX9 155 yX9_takeUp, Cond.instanceMethod yX9_takeUp, Cond.selects RX9 yX9_takeUp yX9_takeUp, Cond.code yX9_takeUp cX9_takeUp 1 none, Cond.methodLink RX9 145 yX9_giveBack, Cond.instanceMethod yX9_giveBack, Cond.selects RX9 yX9_giveBack yX9_giveBack, Cond.code yX9_giveBack cX9_giveBack 3 none, Cond.methodLink RX9 101 yX9_slateCount, Cond.instanceMethod yX9_slateCount, Cond.selects RX9 yX9_slateCount yX9_slateCount, Cond.code yX9_slateCount cX9_slateCount 2 (some .int), Cond.methodLink RX9 104 yX9_slateOf]
def wsX9_up_r2 : List Cond := [Cond.instanceMethod yX9_slateOf, Cond.selects RX9 yX9_slateOf yX9_slateOf, Cond.code yX9_slateOf cX9_slateOf 3 (some .int)]
def wsX9_up : List Cond := .code yX9_up cX9_up 1 (some .int) :: ((wsX9_up_r1 ++ wsX9_up_r2) ++ wsX90)
def wsX9_isHeap : List Cond := .code yX9_isHeap cX9_isHeap 2 (some .boolean) :: ([.fieldLink RX9 54 "RoofCoursesModel" "heapCount" "I", .methodLink RX9 66 yX9_in, .static yX9_in, .initialized RX9, .code yX9_in cX9_in 3 (some .boolean)] ++ wsX90)
def wsX9_bring : List Cond := .code yX9_bring cX9_bring 3 (some .int) :: ([.fieldLink RX9 25 "RoofCoursesModel" "now" "[I", .methodLink RX9 164 yX9_isHeap, .instanceMethod yX9_isHeap, .selects RX9 yX9_isHeap yX9_isHeap, .initialized RX9, .code yX9_isHeap cX9_isHeap 2 (some .boolean), .fieldLink RX9 54 "RoofCoursesModel" "heapCount" "I", .methodLink RX9 66 yX9_in, .static yX9_in, .code yX9_in cX9_in 3 (some .boolean), .methodLink RX9 161 yX9_save, .instanceMethod yX9_save, .selects RX9 yX9_save yX9_save, .code yX9_save cX9_save 2 none, .fieldLink RX9 57 "RoofCoursesModel" "historySize" "I", .fieldLink RX9 31 "RoofCoursesModel" "history" "[I", .methodLink RX9 148 yX9_copyState, .static yX9_copyState, .code yX9_copyState cX9_copyState 5 none] ++ wsX90)
def wsX9_undo : List Cond := .code yX9_undo cX9_undo 1 (some .int) :: ([.fieldLink RX9 57 "RoofCoursesModel" "historySize" "I", .fieldLink RX9 31 "RoofCoursesModel" "history" "[I", .fieldLink RX9 25 "RoofCoursesModel" "now" "[I", .methodLink RX9 148 yX9_copyState, .static yX9_copyState, .initialized RX9, .code yX9_copyState cX9_copyState 5 none] ++ wsX90)
def wsX9_laidOf : List Cond := .code yX9_laidOf cX9_laidOf 5 (some .int) :: ([.fieldLink RX9 25 "RoofCoursesModel" "now" "[I", .methodLink RX9 101 yX9_slateCount, .instanceMethod yX9_slateCount, .selects RX9 yX9_slateCount yX9_slateCount, .initialized RX9, .code yX9_slateCount cX9_slateCount 2 (some .int), .methodLink RX9 104 yX9_slateOf, .instanceMethod yX9_slateOf, .selects RX9 yX9_slateOf yX9_slateOf, .code yX9_slateOf cX9_slateOf 3 (some .int)] ++ wsX90)
def wsX9_heap : List Cond := .code yX9_heap cX9_heap 3 (some .int) :: ([.fieldLink RX9 19 "RoofCoursesModel" "heaps" "[I", .fieldLink RX9 25 "RoofCoursesModel" "now" "[I", .methodLink RX9 164 yX9_isHeap, .instanceMethod yX9_isHeap, .selects RX9 yX9_isHeap yX9_isHeap, .initialized RX9, .code yX9_isHeap cX9_isHeap 2 (some .boolean), .fieldLink RX9 54 "RoofCoursesModel" "heapCount" "I", .methodLink RX9 66 yX9_in, .static yX9_in, .code yX9_in cX9_in 3 (some .boolean), .methodLink RX9 167 yX9_laidOf, .instanceMethod yX9_laidOf, .selects RX9 yX9_laidOf yX9_laidOf, .code yX9_laidOf cX9_laidOf 5 (some .int), .methodLink RX9 101 yX9_slateCount, .instanceMethod yX9_slateCount, .selects RX9 yX9_slateCount yX9_slateCount, .code yX9_slateCount cX9_slateCount 2 (some .int), .methodLink RX9 104 yX9_slateOf, .instanceMethod yX9_slateOf, .selects RX9 yX9_slateOf yX9_slateOf, .code yX9_slateOf cX9_slateOf 3 (some .int)] ++ wsX90)
def wsX9_isCourse : List Cond := .code yX9_isCourse cX9_isCourse 2 (some .boolean) :: ([.fieldLink RX9 25 "RoofCoursesModel" "now" "[I", .methodLink RX9 66 yX9_in, .static yX9_in, .initialized RX9, .code yX9_in cX9_in 3 (some .boolean)] ++ wsX90)
def wsX9_lapHeld : List Cond := .code yX9_lapHeld cX9_lapHeld 2 (some .int) :: ([.fieldLink RX9 25 "RoofCoursesModel" "now" "[I", .methodLink RX9 91 yX9_courseLength, .instanceMethod yX9_courseLength, .selects RX9 yX9_courseLength yX9_courseLength, .initialized RX9, .code yX9_courseLength cX9_courseLength 2 (some .int), .methodLink RX9 95 yX9_gauge, .instanceMethod yX9_gauge, .selects RX9 yX9_gauge yX9_gauge, .code yX9_gauge cX9_gauge 2 (some .int), .fieldLink RX9 13 "RoofCoursesModel" "settings" "[I"] ++ wsX90)
def wsX9_told_r1 : List Cond := [Cond.methodLink RX9 170 yX9_isCourse, Cond.instanceMethod yX9_isCourse, Cond.selects RX9 yX9_isCourse yX9_isCourse, Cond.initialized RX9, Cond.code yX9_isCourse cX9_isCourse 2 (some .boolean), Cond.fieldLink RX9 25 "RoofCoursesModel" "now" "[I", Cond.methodLink RX9 66 yX9_in, Cond.static yX9_in, Cond.code yX9_in cX9_in 3 (some .boolean), Cond.methodLink RX9 91 yX9_courseLength, Cond.instanceMethod yX9_courseLength, Cond.selects RX9 yX9_courseLength yX9_courseLength, Cond.code yX9_courseLength cX9_courseLength 2 (some .int), Cond.methodLink RX9 98 yX9_foot, Cond.instanceMethod yX9_foot, Cond.selects RX9 yX9_foot yX9_foot, Cond.code yX9_foot cX9_foot 4 (some .int), Cond.methodLink RX9 95 yX9_gauge, Cond.instanceMethod yX9_gauge, Cond.selects RX9 yX9_gauge yX9_gauge, Cond.code yX9_gauge cX9_gauge 2 (some .int), Cond.fieldLink RX9 13 "RoofCoursesModel" "settings" "[I", Cond.methodLink RX9 126 yX9_room, Cond.instanceMethod yX9_room]
def wsX9_told_r2 : List Cond := [Cond.selects RX9 yX9_room yX9_room, Cond.code yX9_room cX9_room 3 (some .int), Cond.methodLink RX9 101 yX9_slateCount, Cond.instanceMethod yX9_slateCount, Cond.selects RX9 yX9_slateCount yX9_slateCount, Cond.code yX9_slateCount cX9_slateCount 2 (some .int), Cond.methodLink RX9 173 yX9_waste, Cond.instanceMethod yX9_waste, Cond.selects RX9 yX9_waste yX9_waste, Cond.code yX9_waste cX9_waste 4 (some .int), Cond.methodLink RX9 104 yX9_slateOf, Cond.instanceMethod yX9_slateOf, Cond.selects RX9 yX9_slateOf yX9_slateOf, Cond.code yX9_slateOf cX9_slateOf 3 (some .int), Cond.methodLink RX9 108 yX9_breadth, Cond.instanceMethod yX9_breadth, Cond.selects RX9 yX9_breadth yX9_breadth, Cond.code yX9_breadth cX9_breadth 2 (some .int), Cond.fieldLink RX9 19 "RoofCoursesModel" "heaps" "[I", Cond.methodLink RX9 176 yX9_lapHeld, Cond.instanceMethod yX9_lapHeld, Cond.selects RX9 yX9_lapHeld yX9_lapHeld, Cond.code yX9_lapHeld cX9_lapHeld 2 (some .int), Cond.methodLink RX9 179 yX9_cutCount]
def wsX9_told_r3 : List Cond := [Cond.instanceMethod yX9_cutCount, Cond.selects RX9 yX9_cutCount yX9_cutCount, Cond.code yX9_cutCount cX9_cutCount 4 (some .int)]
def wsX9_told : List Cond := .code yX9_told cX9_told 3 (some .int) :: ((wsX9_told_r1 ++ (wsX9_told_r2 ++ wsX9_told_r3)) ++ wsX90)
def wsX9_joint : List Cond := .code yX9_joint cX9_joint 3 (some .int) :: ([.fieldLink RX9 111 "RoofCoursesModel" "jointCount" "I", .fieldLink RX9 37 "RoofCoursesModel" "joints" "[I", .methodLink RX9 170 yX9_isCourse, .instanceMethod yX9_isCourse, .selects RX9 yX9_isCourse yX9_isCourse, .initialized RX9, .code yX9_isCourse cX9_isCourse 2 (some .boolean), .fieldLink RX9 25 "RoofCoursesModel" "now" "[I", .methodLink RX9 66 yX9_in, .static yX9_in, .code yX9_in cX9_in 3 (some .boolean), .methodLink RX9 129 yX9_findJoints, .instanceMethod yX9_findJoints, .selects RX9 yX9_findJoints yX9_findJoints, .code yX9_findJoints cX9_findJoints 4 none, .methodLink RX9 101 yX9_slateCount, .instanceMethod yX9_slateCount, .selects RX9 yX9_slateCount yX9_slateCount, .code yX9_slateCount cX9_slateCount 2 (some .int), .methodLink RX9 104 yX9_slateOf, .instanceMethod yX9_slateOf, .selects RX9 yX9_slateOf yX9_slateOf, .code yX9_slateOf cX9_slateOf 3 (some .int)] ++ wsX90)
def wsX9_slate : List Cond := .code yX9_slate cX9_slate 4 (some .int) :: ([.methodLink RX9 170 yX9_isCourse, .instanceMethod yX9_isCourse, .selects RX9 yX9_isCourse yX9_isCourse, .initialized RX9, .code yX9_isCourse cX9_isCourse 2 (some .boolean), .fieldLink RX9 25 "RoofCoursesModel" "now" "[I", .methodLink RX9 66 yX9_in, .static yX9_in, .code yX9_in cX9_in 3 (some .boolean), .methodLink RX9 101 yX9_slateCount, .instanceMethod yX9_slateCount, .selects RX9 yX9_slateCount yX9_slateCount, .code yX9_slateCount cX9_slateCount 2 (some .int), .methodLink RX9 104 yX9_slateOf, .instanceMethod yX9_slateOf, .selects RX9 yX9_slateOf yX9_slateOf, .code yX9_slateOf cX9_slateOf 3 (some .int)] ++ wsX90)
def wsX9_tried_r1 : List Cond := [Cond.fieldLink RX9 25 "RoofCoursesModel" "now" "[I", Cond.methodLink RX9 66 yX9_in, Cond.static yX9_in, Cond.initialized RX9, Cond.code yX9_in cX9_in 3 (some .boolean), Cond.methodLink RX9 152 yX9_layCourse, Cond.instanceMethod yX9_layCourse, Cond.selects RX9 yX9_layCourse yX9_layCourse, Cond.code yX9_layCourse cX9_layCourse 2 (some .boolean), Cond.methodLink RX9 139 yX9_mayBegin, Cond.instanceMethod yX9_mayBegin, Cond.selects RX9 yX9_mayBegin yX9_mayBegin, Cond.code yX9_mayBegin cX9_mayBegin 4 (some .boolean), Cond.fieldLink RX9 54 "RoofCoursesModel" "heapCount" "I", Cond.methodLink RX9 114 yX9_heapLength, Cond.instanceMethod yX9_heapLength, Cond.selects RX9 yX9_heapLength yX9_heapLength, Cond.code yX9_heapLength cX9_heapLength 2 (some .int), Cond.fieldLink RX9 19 "RoofCoursesModel" "heaps" "[I", Cond.methodLink RX9 136 yX9_isReady, Cond.instanceMethod yX9_isReady, Cond.selects RX9 yX9_isReady yX9_isReady, Cond.code yX9_isReady cX9_isReady 1 (some .boolean), Cond.fieldLink RX9 13 "RoofCoursesModel" "settings" "[I"]
def wsX9_tried_r2 : List Cond := [Cond.methodLink RX9 98 yX9_foot, Cond.instanceMethod yX9_foot, Cond.selects RX9 yX9_foot yX9_foot, Cond.code yX9_foot cX9_foot 4 (some .int), Cond.methodLink RX9 91 yX9_courseLength, Cond.instanceMethod yX9_courseLength, Cond.selects RX9 yX9_courseLength yX9_courseLength, Cond.code yX9_courseLength cX9_courseLength 2 (some .int), Cond.methodLink RX9 95 yX9_gauge, Cond.instanceMethod yX9_gauge, Cond.selects RX9 yX9_gauge yX9_gauge, Cond.code yX9_gauge cX9_gauge 2 (some .int), Cond.methodLink RX9 142 yX9_fill, Cond.instanceMethod yX9_fill, Cond.selects RX9 yX9_fill yX9_fill, Cond.code yX9_fill cX9_fill 6 (some .boolean), Cond.fieldLink RX9 120 "RoofCoursesModel" "chosen" "I", Cond.fieldLink RX9 123 "RoofCoursesModel" "visible" "I", Cond.methodLink RX9 126 yX9_room, Cond.instanceMethod yX9_room, Cond.selects RX9 yX9_room yX9_room, Cond.code yX9_room cX9_room 3 (some .int), Cond.methodLink RX9 129 yX9_findJoints, Cond.instanceMethod yX9_findJoints]
def wsX9_tried_r3 : List Cond := [Cond.selects RX9 yX9_findJoints yX9_findJoints, Cond.code yX9_findJoints cX9_findJoints 4 none, Cond.fieldLink RX9 111 "RoofCoursesModel" "jointCount" "I", Cond.fieldLink RX9 37 "RoofCoursesModel" "joints" "[I", Cond.methodLink RX9 101 yX9_slateCount, Cond.instanceMethod yX9_slateCount, Cond.selects RX9 yX9_slateCount yX9_slateCount, Cond.code yX9_slateCount cX9_slateCount 2 (some .int), Cond.methodLink RX9 104 yX9_slateOf, Cond.instanceMethod yX9_slateOf, Cond.selects RX9 yX9_slateOf yX9_slateOf, Cond.code yX9_slateOf cX9_slateOf 3 (some .int), Cond.methodLink RX9 133 yX9_choose, Cond.instanceMethod yX9_choose, Cond.selects RX9 yX9_choose yX9_choose, Cond.code yX9_choose cX9_choose 10 (some .boolean), Cond.methodLink RX9 108 yX9_breadth, Cond.instanceMethod yX9_breadth, Cond.selects RX9 yX9_breadth yX9_breadth, Cond.code yX9_breadth cX9_breadth 2 (some .int), Cond.methodLink RX9 117 yX9_isBroken, Cond.instanceMethod yX9_isBroken, Cond.selects RX9 yX9_isBroken yX9_isBroken, Cond.code yX9_isBroken cX9_isBroken 5 (some .boolean)]
def wsX9_tried_r4 : List Cond := [Cond.methodLink RX9 145 yX9_giveBack, Cond.instanceMethod yX9_giveBack, Cond.selects RX9 yX9_giveBack yX9_giveBack, Cond.code yX9_giveBack cX9_giveBack 3 none, Cond.methodLink RX9 173 yX9_waste, Cond.instanceMethod yX9_waste, Cond.selects RX9 yX9_waste yX9_waste, Cond.code yX9_waste cX9_waste 4 (some .int), Cond.methodLink RX9 155 yX9_takeUp, Cond.instanceMethod yX9_takeUp, Cond.selects RX9 yX9_takeUp yX9_takeUp, Cond.code yX9_takeUp cX9_takeUp 1 none]
def wsX9_tried : List Cond := .code yX9_tried cX9_tried 5 (some .int) :: ((wsX9_tried_r1 ++ (wsX9_tried_r2 ++ (wsX9_tried_r3 ++ wsX9_tried_r4))) ++ wsX90)
def wsX9_nextLength_r1 : List Cond := [Cond.fieldLink RX9 54 "RoofCoursesModel" "heapCount" "I", Cond.fieldLink RX9 25 "RoofCoursesModel" "now" "[I", Cond.methodLink RX9 114 yX9_heapLength, Cond.instanceMethod yX9_heapLength, Cond.selects RX9 yX9_heapLength yX9_heapLength, Cond.initialized RX9, Cond.code yX9_heapLength cX9_heapLength 2 (some .int), Cond.fieldLink RX9 19 "RoofCoursesModel" "heaps" "[I", Cond.methodLink RX9 152 yX9_layCourse, Cond.instanceMethod yX9_layCourse, Cond.selects RX9 yX9_layCourse yX9_layCourse, Cond.code yX9_layCourse cX9_layCourse 2 (some .boolean), Cond.methodLink RX9 139 yX9_mayBegin, Cond.instanceMethod yX9_mayBegin, Cond.selects RX9 yX9_mayBegin yX9_mayBegin, Cond.code yX9_mayBegin cX9_mayBegin 4 (some .boolean), Cond.methodLink RX9 136 yX9_isReady, Cond.instanceMethod yX9_isReady, Cond.selects RX9 yX9_isReady yX9_isReady, Cond.code yX9_isReady cX9_isReady 1 (some .boolean), Cond.fieldLink RX9 13 "RoofCoursesModel" "settings" "[I", Cond.methodLink RX9 98 yX9_foot, Cond.instanceMethod yX9_foot, Cond.selects RX9 yX9_foot yX9_foot]
def wsX9_nextLength_r2 : List Cond := [Cond.code yX9_foot cX9_foot 4 (some .int), Cond.methodLink RX9 91 yX9_courseLength, Cond.instanceMethod yX9_courseLength, Cond.selects RX9 yX9_courseLength yX9_courseLength, Cond.code yX9_courseLength cX9_courseLength 2 (some .int), Cond.methodLink RX9 95 yX9_gauge, Cond.instanceMethod yX9_gauge, Cond.selects RX9 yX9_gauge yX9_gauge, Cond.code yX9_gauge cX9_gauge 2 (some .int), Cond.methodLink RX9 142 yX9_fill, Cond.instanceMethod yX9_fill, Cond.selects RX9 yX9_fill yX9_fill, Cond.code yX9_fill cX9_fill 6 (some .boolean), Cond.fieldLink RX9 120 "RoofCoursesModel" "chosen" "I", Cond.fieldLink RX9 123 "RoofCoursesModel" "visible" "I", Cond.methodLink RX9 126 yX9_room, Cond.instanceMethod yX9_room, Cond.selects RX9 yX9_room yX9_room, Cond.code yX9_room cX9_room 3 (some .int), Cond.methodLink RX9 129 yX9_findJoints, Cond.instanceMethod yX9_findJoints, Cond.selects RX9 yX9_findJoints yX9_findJoints, Cond.code yX9_findJoints cX9_findJoints 4 none, Cond.fieldLink RX9 111 "RoofCoursesModel" "jointCount" "I"]
def wsX9_nextLength_r3 : List Cond := [Cond.fieldLink RX9 37 "RoofCoursesModel" "joints" "[I", Cond.methodLink RX9 101 yX9_slateCount, Cond.instanceMethod yX9_slateCount, Cond.selects RX9 yX9_slateCount yX9_slateCount, Cond.code yX9_slateCount cX9_slateCount 2 (some .int), Cond.methodLink RX9 104 yX9_slateOf, Cond.instanceMethod yX9_slateOf, Cond.selects RX9 yX9_slateOf yX9_slateOf, Cond.code yX9_slateOf cX9_slateOf 3 (some .int), Cond.methodLink RX9 133 yX9_choose, Cond.instanceMethod yX9_choose, Cond.selects RX9 yX9_choose yX9_choose, Cond.code yX9_choose cX9_choose 10 (some .boolean), Cond.methodLink RX9 108 yX9_breadth, Cond.instanceMethod yX9_breadth, Cond.selects RX9 yX9_breadth yX9_breadth, Cond.code yX9_breadth cX9_breadth 2 (some .int), Cond.methodLink RX9 117 yX9_isBroken, Cond.instanceMethod yX9_isBroken, Cond.selects RX9 yX9_isBroken yX9_isBroken, Cond.code yX9_isBroken cX9_isBroken 5 (some .boolean), Cond.methodLink RX9 145 yX9_giveBack, Cond.instanceMethod yX9_giveBack, Cond.selects RX9 yX9_giveBack yX9_giveBack]
def wsX9_nextLength_r4 : List Cond := [Cond.code yX9_giveBack cX9_giveBack 3 none, Cond.methodLink RX9 173 yX9_waste, Cond.instanceMethod yX9_waste, Cond.selects RX9 yX9_waste yX9_waste, Cond.code yX9_waste cX9_waste 4 (some .int), Cond.methodLink RX9 155 yX9_takeUp, Cond.instanceMethod yX9_takeUp, Cond.selects RX9 yX9_takeUp yX9_takeUp, Cond.code yX9_takeUp cX9_takeUp 1 none]
def wsX9_nextLength : List Cond := .code yX9_nextLength cX9_nextLength 8 (some .int) :: ((wsX9_nextLength_r1 ++ (wsX9_nextLength_r2 ++ (wsX9_nextLength_r3 ++ wsX9_nextLength_r4))) ++ wsX90)
def wsX9_next_r1 : List Cond := [Cond.methodLink RX9 66 yX9_in, Cond.static yX9_in, Cond.initialized RX9, Cond.code yX9_in cX9_in 3 (some .boolean), Cond.methodLink RX9 182 yX9_nextLength, Cond.instanceMethod yX9_nextLength, Cond.selects RX9 yX9_nextLength yX9_nextLength, Cond.code yX9_nextLength cX9_nextLength 8 (some .int), Cond.fieldLink RX9 54 "RoofCoursesModel" "heapCount" "I", Cond.fieldLink RX9 25 "RoofCoursesModel" "now" "[I", Cond.methodLink RX9 114 yX9_heapLength, Cond.instanceMethod yX9_heapLength, Cond.selects RX9 yX9_heapLength yX9_heapLength, Cond.code yX9_heapLength cX9_heapLength 2 (some .int), Cond.fieldLink RX9 19 "RoofCoursesModel" "heaps" "[I", Cond.methodLink RX9 152 yX9_layCourse, Cond.instanceMethod yX9_layCourse, Cond.selects RX9 yX9_layCourse yX9_layCourse, Cond.code yX9_layCourse cX9_layCourse 2 (some .boolean), Cond.methodLink RX9 139 yX9_mayBegin, Cond.instanceMethod yX9_mayBegin, Cond.selects RX9 yX9_mayBegin yX9_mayBegin, Cond.code yX9_mayBegin cX9_mayBegin 4 (some .boolean), Cond.methodLink RX9 136 yX9_isReady]
def wsX9_next_r2 : List Cond := [Cond.instanceMethod yX9_isReady, Cond.selects RX9 yX9_isReady yX9_isReady, Cond.code yX9_isReady cX9_isReady 1 (some .boolean), Cond.fieldLink RX9 13 "RoofCoursesModel" "settings" "[I", Cond.methodLink RX9 98 yX9_foot, Cond.instanceMethod yX9_foot, Cond.selects RX9 yX9_foot yX9_foot, Cond.code yX9_foot cX9_foot 4 (some .int), Cond.methodLink RX9 91 yX9_courseLength, Cond.instanceMethod yX9_courseLength, Cond.selects RX9 yX9_courseLength yX9_courseLength, Cond.code yX9_courseLength cX9_courseLength 2 (some .int), Cond.methodLink RX9 95 yX9_gauge, Cond.instanceMethod yX9_gauge, Cond.selects RX9 yX9_gauge yX9_gauge, Cond.code yX9_gauge cX9_gauge 2 (some .int), Cond.methodLink RX9 142 yX9_fill, Cond.instanceMethod yX9_fill, Cond.selects RX9 yX9_fill yX9_fill, Cond.code yX9_fill cX9_fill 6 (some .boolean), Cond.fieldLink RX9 120 "RoofCoursesModel" "chosen" "I", Cond.fieldLink RX9 123 "RoofCoursesModel" "visible" "I", Cond.methodLink RX9 126 yX9_room, Cond.instanceMethod yX9_room]
def wsX9_next_r3 : List Cond := [Cond.selects RX9 yX9_room yX9_room, Cond.code yX9_room cX9_room 3 (some .int), Cond.methodLink RX9 129 yX9_findJoints, Cond.instanceMethod yX9_findJoints, Cond.selects RX9 yX9_findJoints yX9_findJoints, Cond.code yX9_findJoints cX9_findJoints 4 none, Cond.fieldLink RX9 111 "RoofCoursesModel" "jointCount" "I", Cond.fieldLink RX9 37 "RoofCoursesModel" "joints" "[I", Cond.methodLink RX9 101 yX9_slateCount, Cond.instanceMethod yX9_slateCount, Cond.selects RX9 yX9_slateCount yX9_slateCount, Cond.code yX9_slateCount cX9_slateCount 2 (some .int), Cond.methodLink RX9 104 yX9_slateOf, Cond.instanceMethod yX9_slateOf, Cond.selects RX9 yX9_slateOf yX9_slateOf, Cond.code yX9_slateOf cX9_slateOf 3 (some .int), Cond.methodLink RX9 133 yX9_choose, Cond.instanceMethod yX9_choose, Cond.selects RX9 yX9_choose yX9_choose, Cond.code yX9_choose cX9_choose 10 (some .boolean), Cond.methodLink RX9 108 yX9_breadth, Cond.instanceMethod yX9_breadth, Cond.selects RX9 yX9_breadth yX9_breadth, Cond.code yX9_breadth cX9_breadth 2 (some .int)]
def wsX9_next_r4 : List Cond := [Cond.methodLink RX9 117 yX9_isBroken, Cond.instanceMethod yX9_isBroken, Cond.selects RX9 yX9_isBroken yX9_isBroken, Cond.code yX9_isBroken cX9_isBroken 5 (some .boolean), Cond.methodLink RX9 145 yX9_giveBack, Cond.instanceMethod yX9_giveBack, Cond.selects RX9 yX9_giveBack yX9_giveBack, Cond.code yX9_giveBack cX9_giveBack 3 none, Cond.methodLink RX9 173 yX9_waste, Cond.instanceMethod yX9_waste, Cond.selects RX9 yX9_waste yX9_waste, Cond.code yX9_waste cX9_waste 4 (some .int), Cond.methodLink RX9 155 yX9_takeUp, Cond.instanceMethod yX9_takeUp, Cond.selects RX9 yX9_takeUp yX9_takeUp, Cond.code yX9_takeUp cX9_takeUp 1 none]
def wsX9_next : List Cond := .code yX9_next cX9_next 2 (some .int) :: ((wsX9_next_r1 ++ (wsX9_next_r2 ++ (wsX9_next_r3 ++ wsX9_next_r4))) ++ wsX90)
def wsX9_itself_r1 : List Cond := [Cond.fieldLink RX9 25 "RoofCoursesModel" "now" "[I", Cond.fieldLink RX9 28 "RoofCoursesModel" "saved" "[I", Cond.methodLink RX9 66 yX9_in, Cond.static yX9_in, Cond.initialized RX9, Cond.code yX9_in cX9_in 3 (some .boolean), Cond.methodLink RX9 148 yX9_copyState, Cond.static yX9_copyState, Cond.code yX9_copyState cX9_copyState 5 none, Cond.methodLink RX9 182 yX9_nextLength, Cond.instanceMethod yX9_nextLength, Cond.selects RX9 yX9_nextLength yX9_nextLength, Cond.code yX9_nextLength cX9_nextLength 8 (some .int), Cond.fieldLink RX9 54 "RoofCoursesModel" "heapCount" "I", Cond.methodLink RX9 114 yX9_heapLength, Cond.instanceMethod yX9_heapLength, Cond.selects RX9 yX9_heapLength yX9_heapLength, Cond.code yX9_heapLength cX9_heapLength 2 (some .int), Cond.fieldLink RX9 19 "RoofCoursesModel" "heaps" "[I", Cond.methodLink RX9 152 yX9_layCourse, Cond.instanceMethod yX9_layCourse, Cond.selects RX9 yX9_layCourse yX9_layCourse, Cond.code yX9_layCourse cX9_layCourse 2 (some .boolean), Cond.methodLink RX9 139 yX9_mayBegin]
def wsX9_itself_r2 : List Cond := [Cond.instanceMethod yX9_mayBegin, Cond.selects RX9 yX9_mayBegin yX9_mayBegin, Cond.code yX9_mayBegin cX9_mayBegin 4 (some .boolean), Cond.methodLink RX9 136 yX9_isReady, Cond.instanceMethod yX9_isReady, Cond.selects RX9 yX9_isReady yX9_isReady, Cond.code yX9_isReady cX9_isReady 1 (some .boolean), Cond.fieldLink RX9 13 "RoofCoursesModel" "settings" "[I", Cond.methodLink RX9 98 yX9_foot, Cond.instanceMethod yX9_foot, Cond.selects RX9 yX9_foot yX9_foot, Cond.code yX9_foot cX9_foot 4 (some .int), Cond.methodLink RX9 91 yX9_courseLength, Cond.instanceMethod yX9_courseLength, Cond.selects RX9 yX9_courseLength yX9_courseLength, Cond.code yX9_courseLength cX9_courseLength 2 (some .int), Cond.methodLink RX9 95 yX9_gauge, Cond.instanceMethod yX9_gauge, Cond.selects RX9 yX9_gauge yX9_gauge, Cond.code yX9_gauge cX9_gauge 2 (some .int), Cond.methodLink RX9 142 yX9_fill, Cond.instanceMethod yX9_fill, Cond.selects RX9 yX9_fill yX9_fill, Cond.code yX9_fill cX9_fill 6 (some .boolean)]
def wsX9_itself_r3 : List Cond := [Cond.fieldLink RX9 120 "RoofCoursesModel" "chosen" "I", Cond.fieldLink RX9 123 "RoofCoursesModel" "visible" "I", Cond.methodLink RX9 126 yX9_room, Cond.instanceMethod yX9_room, Cond.selects RX9 yX9_room yX9_room, Cond.code yX9_room cX9_room 3 (some .int), Cond.methodLink RX9 129 yX9_findJoints, Cond.instanceMethod yX9_findJoints, Cond.selects RX9 yX9_findJoints yX9_findJoints, Cond.code yX9_findJoints cX9_findJoints 4 none, Cond.fieldLink RX9 111 "RoofCoursesModel" "jointCount" "I", Cond.fieldLink RX9 37 "RoofCoursesModel" "joints" "[I", Cond.methodLink RX9 101 yX9_slateCount, Cond.instanceMethod yX9_slateCount, Cond.selects RX9 yX9_slateCount yX9_slateCount, Cond.code yX9_slateCount cX9_slateCount 2 (some .int), Cond.methodLink RX9 104 yX9_slateOf, Cond.instanceMethod yX9_slateOf, Cond.selects RX9 yX9_slateOf yX9_slateOf, Cond.code yX9_slateOf cX9_slateOf 3 (some .int), Cond.methodLink RX9 133 yX9_choose, Cond.instanceMethod yX9_choose, Cond.selects RX9 yX9_choose yX9_choose, Cond.code yX9_choose cX9_choose 10 (some .boolean)]
def wsX9_itself_r4 : List Cond := [Cond.methodLink RX9 108 yX9_breadth, Cond.instanceMethod yX9_breadth, Cond.selects RX9 yX9_breadth yX9_breadth, Cond.code yX9_breadth cX9_breadth 2 (some .int), Cond.methodLink RX9 117 yX9_isBroken, Cond.instanceMethod yX9_isBroken, Cond.selects RX9 yX9_isBroken yX9_isBroken, Cond.code yX9_isBroken cX9_isBroken 5 (some .boolean), Cond.methodLink RX9 145 yX9_giveBack, Cond.instanceMethod yX9_giveBack, Cond.selects RX9 yX9_giveBack yX9_giveBack, Cond.code yX9_giveBack cX9_giveBack 3 none, Cond.methodLink RX9 173 yX9_waste, Cond.instanceMethod yX9_waste, Cond.selects RX9 yX9_waste yX9_waste, Cond.code yX9_waste cX9_waste 4 (some .int), Cond.methodLink RX9 155 yX9_takeUp, Cond.instanceMethod yX9_takeUp, Cond.selects RX9 yX9_takeUp yX9_takeUp, Cond.code yX9_takeUp cX9_takeUp 1 none]
def wsX9_itself : List Cond := .code yX9_itself cX9_itself 7 (some .int) :: ((wsX9_itself_r1 ++ (wsX9_itself_r2 ++ (wsX9_itself_r3 ++ wsX9_itself_r4))) ++ wsX90)
def wsX9_sumOf : List Cond := .code yX9_sumOf cX9_sumOf 4 (some .int) :: ([.fieldLink RX9 25 "RoofCoursesModel" "now" "[I", .fieldLink RX9 54 "RoofCoursesModel" "heapCount" "I", .methodLink RX9 173 yX9_waste, .instanceMethod yX9_waste, .selects RX9 yX9_waste yX9_waste, .initialized RX9, .code yX9_waste cX9_waste 4 (some .int), .methodLink RX9 101 yX9_slateCount, .instanceMethod yX9_slateCount, .selects RX9 yX9_slateCount yX9_slateCount, .code yX9_slateCount cX9_slateCount 2 (some .int), .methodLink RX9 104 yX9_slateOf, .instanceMethod yX9_slateOf, .selects RX9 yX9_slateOf yX9_slateOf, .code yX9_slateOf cX9_slateOf 3 (some .int), .methodLink RX9 108 yX9_breadth, .instanceMethod yX9_breadth, .selects RX9 yX9_breadth yX9_breadth, .code yX9_breadth cX9_breadth 2 (some .int), .fieldLink RX9 19 "RoofCoursesModel" "heaps" "[I", .methodLink RX9 91 yX9_courseLength, .instanceMethod yX9_courseLength, .selects RX9 yX9_courseLength yX9_courseLength, .code yX9_courseLength cX9_courseLength 2 (some .int)] ++ wsX90)
def wsX9_count_r1 : List Cond := [Cond.fieldLink RX9 54 "RoofCoursesModel" "heapCount" "I", Cond.fieldLink RX9 25 "RoofCoursesModel" "now" "[I", Cond.fieldLink RX9 13 "RoofCoursesModel" "settings" "[I", Cond.fieldLink RX9 57 "RoofCoursesModel" "historySize" "I", Cond.fieldLink RX9 63 "RoofCoursesModel" "length" "I", Cond.methodLink RX9 98 yX9_foot, Cond.instanceMethod yX9_foot, Cond.selects RX9 yX9_foot yX9_foot, Cond.initialized RX9, Cond.code yX9_foot cX9_foot 4 (some .int), Cond.methodLink RX9 91 yX9_courseLength, Cond.instanceMethod yX9_courseLength, Cond.selects RX9 yX9_courseLength yX9_courseLength, Cond.code yX9_courseLength cX9_courseLength 2 (some .int), Cond.methodLink RX9 95 yX9_gauge, Cond.instanceMethod yX9_gauge, Cond.selects RX9 yX9_gauge yX9_gauge, Cond.code yX9_gauge cX9_gauge 2 (some .int), Cond.methodLink RX9 136 yX9_isReady, Cond.instanceMethod yX9_isReady, Cond.selects RX9 yX9_isReady yX9_isReady, Cond.code yX9_isReady cX9_isReady 1 (some .boolean), Cond.methodLink RX9 185 yX9_sumOf, Cond.instanceMethod yX9_sumOf]
def wsX9_count_r2 : List Cond := [Cond.selects RX9 yX9_sumOf yX9_sumOf, Cond.code yX9_sumOf cX9_sumOf 4 (some .int), Cond.methodLink RX9 173 yX9_waste, Cond.instanceMethod yX9_waste, Cond.selects RX9 yX9_waste yX9_waste, Cond.code yX9_waste cX9_waste 4 (some .int), Cond.methodLink RX9 101 yX9_slateCount, Cond.instanceMethod yX9_slateCount, Cond.selects RX9 yX9_slateCount yX9_slateCount, Cond.code yX9_slateCount cX9_slateCount 2 (some .int), Cond.methodLink RX9 104 yX9_slateOf, Cond.instanceMethod yX9_slateOf, Cond.selects RX9 yX9_slateOf yX9_slateOf, Cond.code yX9_slateOf cX9_slateOf 3 (some .int), Cond.methodLink RX9 108 yX9_breadth, Cond.instanceMethod yX9_breadth, Cond.selects RX9 yX9_breadth yX9_breadth, Cond.code yX9_breadth cX9_breadth 2 (some .int), Cond.fieldLink RX9 19 "RoofCoursesModel" "heaps" "[I"]
def wsX9_count : List Cond := .code yX9_count cX9_count 2 (some .int) :: ((wsX9_count_r1 ++ wsX9_count_r2) ++ wsX90)
def wsJ9_abs_0f7a4 : List Cond := .code yJ9_abs_0f7a4 cJ9_abs_0f7a4 1 (some .int) :: ([])
def wsJ9_max_7cf53 : List Cond := .code yJ9_max_7cf53 cJ9_max_7cf53 2 (some .int) :: ([])
set_option maxRecDepth 20000 in
theorem ggX0_init_X3_init : GoodIn wsX0_init wsX3_init := goodIn_r _ [16, 17, 2, 3, 4, 18, 19, 30, 31, 32, 33, 34, 35, 36, 37, 38] (by decide +kernel) (by decide +kernel)
set_option maxRecDepth 20000 in
theorem gX0_init_X3_init_n17 : GoodIn wsX0_init (wsX3_init) := ggX0_init_X3_init
theorem dX0_init_0 : decode cX0_init 0 = .ok (.aload_n 0, 1) := by decide +kernel
theorem dX0_init_1 : decode cX0_init 1 = .ok (.invokespecial 3, 3) := by decide +kernel
theorem dX0_init_4 : decode cX0_init 4 = .ok (.aload_n 0, 1) := by decide +kernel
theorem dX0_init_5 : decode cX0_init 5 = .ok (.bipush 8, 2) := by decide +kernel
theorem dX0_init_7 : decode cX0_init 7 = .ok (.newarray .int, 2) := by decide +kernel
theorem dX0_init_9 : decode cX0_init 9 = .ok (.putfield 9, 3) := by decide +kernel
theorem dX0_init_12 : decode cX0_init 12 = .ok (.aload_n 0, 1) := by decide +kernel
theorem dX0_init_13 : decode cX0_init 13 = .ok (.new 15, 3) := by decide +kernel
theorem dX0_init_16 : decode cX0_init 16 = .ok (.dup, 1) := by decide +kernel
theorem dX0_init_17 : decode cX0_init 17 = .ok (.invokespecial 17, 3) := by decide +kernel
theorem dX0_init_20 : decode cX0_init 20 = .ok (.putfield 18, 3) := by decide +kernel
theorem dX0_init_23 : decode cX0_init 23 = .ok (.aload_n 0, 1) := by decide +kernel
theorem dX0_init_24 : decode cX0_init 24 = .ok (.new 15, 3) := by decide +kernel
theorem dX0_init_27 : decode cX0_init 27 = .ok (.dup, 1) := by decide +kernel
theorem dX0_init_28 : decode cX0_init 28 = .ok (.invokespecial 17, 3) := by decide +kernel
theorem dX0_init_31 : decode cX0_init 31 = .ok (.putfield 22, 3) := by decide +kernel
theorem dX0_init_34 : decode cX0_init 34 = .ok (.aload_n 0, 1) := by decide +kernel
theorem dX0_init_35 : decode cX0_init 35 = .ok (.new 15, 3) := by decide +kernel
theorem dX0_init_38 : decode cX0_init 38 = .ok (.dup, 1) := by decide +kernel
theorem dX0_init_39 : decode cX0_init 39 = .ok (.invokespecial 17, 3) := by decide +kernel
theorem dX0_init_42 : decode cX0_init 42 = .ok (.putfield 25, 3) := by decide +kernel
theorem dX0_init_45 : decode cX0_init 45 = .ok (.aload_n 0, 1) := by decide +kernel
theorem dX0_init_46 : decode cX0_init 46 = .ok (.aload_n 1, 1) := by decide +kernel
theorem dX0_init_47 : decode cX0_init 47 = .ok (.putfield 28, 3) := by decide +kernel
theorem dX0_init_50 : decode cX0_init 50 = .ok (.aload_n 0, 1) := by decide +kernel
theorem dX0_init_51 : decode cX0_init 51 = .ok (.aload_n 2, 1) := by decide +kernel
theorem dX0_init_52 : decode cX0_init 52 = .ok (.putfield 32, 3) := by decide +kernel
theorem dX0_init_55 : decode cX0_init 55 = .ok (.aload_n 0, 1) := by decide +kernel
end
section
theorem dX0_init_56 : decode cX0_init 56 = .ok (.aload_n 3, 1) := by decide +kernel
theorem dX0_init_57 : decode cX0_init 57 = .ok (.putfield 36, 3) := by decide +kernel
theorem dX0_init_60 : decode cX0_init 60 = .ok (.return_, 1) := by decide +kernel
set_option maxRecDepth 20000 in
theorem ggX0_choose_X4_fill : GoodIn wsX0_choose wsX4_fill := goodIn_r _ [13, 14, 15, 16, 17, 18, 19, 20, 21, 22, 23, 24, 25, 26, 27, 28, 29, 30, 31, 32, 33, 34, 35, 36, 37, 38, 39, 40, 41, 42, 43, 44, 45, 46, 47, 48, 49, 50, 51, 52, 53, 54, 55, 56, 57, 58, 59, 60, 61, 62, 12, 63, 64, 65, 66, 67, 68, 69, 70, 71, 72, 73, 74, 75, 76, 77, 78, 79, 80, 81, 82, 83, 84, 85, 86, 87, 88, 89, 90, 91, 92, 93, 94, 95, 96, 97, 98, 99, 100, 101, 102, 103, 104, 105, 134, 135, 125, 126, 127, 128, 129, 130, 131, 132, 133, 116, 117, 118, 119, 120, 121, 122, 123, 124] (by decide +kernel) (by decide +kernel)
set_option maxRecDepth 20000 in
theorem gX0_choose_X4_fill : GoodIn wsX0_choose (wsV RX0 51 RX4 yX4_fill wsX4_fill) := goodIn_app (goodIn_of _ (by decide +kernel)) ggX0_choose_X4_fill
theorem dX0_choose_0 : decode cX0_choose 0 = .ok (.bipush (-4), 2) := by decide +kernel
theorem dX0_choose_2 : decode cX0_choose 2 = .ok (.istore 4, 2) := by decide +kernel
theorem dX0_choose_4 : decode cX0_choose 4 = .ok (.iconst 0, 1) := by decide +kernel
theorem dX0_choose_5 : decode cX0_choose 5 = .ok (.istore 5, 2) := by decide +kernel
theorem dX0_choose_7 : decode cX0_choose 7 = .ok (.iconst 1, 1) := by decide +kernel
theorem dX0_choose_8 : decode cX0_choose 8 = .ok (.istore 6, 2) := by decide +kernel
theorem dX0_choose_10 : decode cX0_choose 10 = .ok (.iconst 0, 1) := by decide +kernel
theorem dX0_choose_11 : decode cX0_choose 11 = .ok (.istore 7, 2) := by decide +kernel
theorem dX0_choose_13 : decode cX0_choose 13 = .ok (.iload 7, 2) := by decide +kernel
theorem dX0_choose_15 : decode cX0_choose 15 = .ok (.aload_n 0, 1) := by decide +kernel
theorem dX0_choose_16 : decode cX0_choose 16 = .ok (.getfield 28, 3) := by decide +kernel
theorem dX0_choose_19 : decode cX0_choose 19 = .ok (.getfield 40, 3) := by decide +kernel
theorem dX0_choose_22 : decode cX0_choose 22 = .ok (.if_icmp .ge 145, 3) := by decide +kernel
theorem dX0_choose_25 : decode cX0_choose 25 = .ok (.aload_n 0, 1) := by decide +kernel
theorem dX0_choose_26 : decode cX0_choose 26 = .ok (.getfield 28, 3) := by decide +kernel
theorem dX0_choose_29 : decode cX0_choose 29 = .ok (.getfield 46, 3) := by decide +kernel
theorem dX0_choose_32 : decode cX0_choose 32 = .ok (.iload 7, 2) := by decide +kernel
theorem dX0_choose_34 : decode cX0_choose 34 = .ok (.iaload, 1) := by decide +kernel
theorem dX0_choose_35 : decode cX0_choose 35 = .ok (.istore 8, 2) := by decide +kernel
theorem dX0_choose_37 : decode cX0_choose 37 = .ok (.iload 7, 2) := by decide +kernel
theorem dX0_choose_39 : decode cX0_choose 39 = .ok (.ifCond .eq 20, 3) := by decide +kernel
theorem dX0_choose_42 : decode cX0_choose 42 = .ok (.aload_n 0, 1) := by decide +kernel
theorem dX0_choose_43 : decode cX0_choose 43 = .ok (.getfield 28, 3) := by decide +kernel
theorem dX0_choose_46 : decode cX0_choose 46 = .ok (.getfield 46, 3) := by decide +kernel
theorem dX0_choose_49 : decode cX0_choose 49 = .ok (.iload 7, 2) := by decide +kernel
theorem dX0_choose_51 : decode cX0_choose 51 = .ok (.iconst 1, 1) := by decide +kernel
theorem dX0_choose_52 : decode cX0_choose 52 = .ok (.isub, 1) := by decide +kernel
theorem dX0_choose_53 : decode cX0_choose 53 = .ok (.iaload, 1) := by decide +kernel
theorem dX0_choose_54 : decode cX0_choose 54 = .ok (.iload 8, 2) := by decide +kernel
theorem dX0_choose_56 : decode cX0_choose 56 = .ok (.if_icmp .eq 7, 3) := by decide +kernel
theorem dX0_choose_59 : decode cX0_choose 59 = .ok (.iconst 1, 1) := by decide +kernel
theorem dX0_choose_60 : decode cX0_choose 60 = .ok (.goto 4, 3) := by decide +kernel
theorem dX0_choose_63 : decode cX0_choose 63 = .ok (.iconst 0, 1) := by decide +kernel
theorem dX0_choose_64 : decode cX0_choose 64 = .ok (.istore 9, 2) := by decide +kernel
theorem dX0_choose_66 : decode cX0_choose 66 = .ok (.iload 9, 2) := by decide +kernel
theorem dX0_choose_68 : decode cX0_choose 68 = .ok (.ifCond .eq 93, 3) := by decide +kernel
theorem dX0_choose_71 : decode cX0_choose 71 = .ok (.iload 8, 2) := by decide +kernel
theorem dX0_choose_73 : decode cX0_choose 73 = .ok (.aload_n 3, 1) := by decide +kernel
theorem dX0_choose_74 : decode cX0_choose 74 = .ok (.getfield 49, 3) := by decide +kernel
theorem dX0_choose_77 : decode cX0_choose 77 = .ok (.if_icmp .gt 84, 3) := by decide +kernel
theorem dX0_choose_80 : decode cX0_choose 80 = .ok (.aload_n 0, 1) := by decide +kernel
theorem dX0_choose_81 : decode cX0_choose 81 = .ok (.getfield 32, 3) := by decide +kernel
theorem dX0_choose_84 : decode cX0_choose 84 = .ok (.aload_n 0, 1) := by decide +kernel
theorem dX0_choose_85 : decode cX0_choose 85 = .ok (.getfield 18, 3) := by decide +kernel
theorem dX0_choose_88 : decode cX0_choose 88 = .ok (.iload 8, 2) := by decide +kernel
theorem dX0_choose_90 : decode cX0_choose 90 = .ok (.aload_n 2, 1) := by decide +kernel
theorem dX0_choose_91 : decode cX0_choose 91 = .ok (.aload_n 3, 1) := by decide +kernel
theorem dX0_choose_92 : decode cX0_choose 92 = .ok (.invokevirtual 51, 3) := by decide +kernel
theorem dX0_choose_95 : decode cX0_choose 95 = .ok (.ifCond .ne 6, 3) := by decide +kernel
theorem dX0_choose_98 : decode cX0_choose 98 = .ok (.goto 63, 3) := by decide +kernel
theorem dX0_choose_101 : decode cX0_choose 101 = .ok (.iload_n 1, 1) := by decide +kernel
theorem dX0_choose_102 : decode cX0_choose 102 = .ok (.iconst 1, 1) := by decide +kernel
theorem dX0_choose_103 : decode cX0_choose 103 = .ok (.if_icmp .ne 6, 3) := by decide +kernel
theorem dX0_choose_106 : decode cX0_choose 106 = .ok (.iload 8, 2) := by decide +kernel
theorem dX0_choose_108 : decode cX0_choose 108 = .ok (.ireturn, 1) := by decide +kernel
theorem dX0_choose_109 : decode cX0_choose 109 = .ok (.iload 4, 2) := by decide +kernel
theorem dX0_choose_111 : decode cX0_choose 111 = .ok (.bipush (-4), 2) := by decide +kernel
theorem dX0_choose_113 : decode cX0_choose 113 = .ok (.if_icmp .eq 26, 3) := by decide +kernel
theorem dX0_choose_116 : decode cX0_choose 116 = .ok (.aload_n 0, 1) := by decide +kernel
theorem dX0_choose_117 : decode cX0_choose 117 = .ok (.getfield 18, 3) := by decide +kernel
theorem dX0_choose_120 : decode cX0_choose 120 = .ok (.getfield 57, 3) := by decide +kernel
theorem dX0_choose_123 : decode cX0_choose 123 = .ok (.iload 6, 2) := by decide +kernel
theorem dX0_choose_125 : decode cX0_choose 125 = .ok (.imul, 1) := by decide +kernel
theorem dX0_choose_126 : decode cX0_choose 126 = .ok (.iload 5, 2) := by decide +kernel
theorem dX0_choose_128 : decode cX0_choose 128 = .ok (.aload_n 0, 1) := by decide +kernel
theorem dX0_choose_129 : decode cX0_choose 129 = .ok (.getfield 18, 3) := by decide +kernel
theorem dX0_choose_132 : decode cX0_choose 132 = .ok (.getfield 60, 3) := by decide +kernel
theorem dX0_choose_135 : decode cX0_choose 135 = .ok (.imul, 1) := by decide +kernel
theorem dX0_choose_136 : decode cX0_choose 136 = .ok (.if_icmp .ge 25, 3) := by decide +kernel
theorem dX0_choose_139 : decode cX0_choose 139 = .ok (.iload 8, 2) := by decide +kernel
theorem dX0_choose_141 : decode cX0_choose 141 = .ok (.istore 4, 2) := by decide +kernel
theorem dX0_choose_143 : decode cX0_choose 143 = .ok (.aload_n 0, 1) := by decide +kernel
theorem dX0_choose_144 : decode cX0_choose 144 = .ok (.getfield 18, 3) := by decide +kernel
theorem dX0_choose_147 : decode cX0_choose 147 = .ok (.getfield 57, 3) := by decide +kernel
theorem dX0_choose_150 : decode cX0_choose 150 = .ok (.istore 5, 2) := by decide +kernel
theorem dX0_choose_152 : decode cX0_choose 152 = .ok (.aload_n 0, 1) := by decide +kernel
theorem dX0_choose_153 : decode cX0_choose 153 = .ok (.getfield 18, 3) := by decide +kernel
theorem dX0_choose_156 : decode cX0_choose 156 = .ok (.getfield 60, 3) := by decide +kernel
theorem dX0_choose_159 : decode cX0_choose 159 = .ok (.istore 6, 2) := by decide +kernel
theorem dX0_choose_161 : decode cX0_choose 161 = .ok (.iinc 7 1, 3) := by decide +kernel
theorem dX0_choose_164 : decode cX0_choose 164 = .ok (.goto (-151), 3) := by decide +kernel
theorem dX0_choose_167 : decode cX0_choose 167 = .ok (.iload 4, 2) := by decide +kernel
theorem dX0_choose_169 : decode cX0_choose 169 = .ok (.ireturn, 1) := by decide +kernel
set_option maxRecDepth 20000 in
theorem ggX0_go_X6_last : GoodIn wsX0_go wsX6_last := goodIn_r _ [21, 22, 23, 24, 150, 151, 152, 153, 154] (by decide +kernel) (by decide +kernel)
set_option maxRecDepth 20000 in
theorem gX0_go_X6_last : GoodIn wsX0_go (wsV RX0 76 RX6 yX6_last wsX6_last) := goodIn_app (goodIn_of _ (by decide +kernel)) ggX0_go_X6_last
set_option maxRecDepth 20000 in
theorem ggX0_go_X5_isReadyBy : GoodIn wsX0_go wsX5_isReadyBy := goodIn_r _ [29, 30, 31, 32, 33, 34, 35, 36, 37, 164, 165, 166, 167, 168, 169, 170, 171, 172, 155, 156, 157, 158, 159, 160, 161, 162, 163] (by decide +kernel) (by decide +kernel)
set_option maxRecDepth 20000 in
theorem gX0_go_X5_isReadyBy : GoodIn wsX0_go (wsV RX0 83 RX5 yX5_isReadyBy wsX5_isReadyBy) := goodIn_app (goodIn_of _ (by decide +kernel)) ggX0_go_X5_isReadyBy
set_option maxRecDepth 20000 in
theorem ggX0_go_X0_choose : GoodIn wsX0_go wsX0_choose := goodIn_r _ [42, 11, 43, 44, 45, 14, 46, 15, 47, 48, 49, 50, 51, 52, 53, 54, 5, 6, 7, 55, 56, 57, 58, 59, 32, 33, 34, 35, 36, 37, 60, 61, 62, 28, 63, 64, 65, 66, 67, 68, 69, 70, 71, 72, 73, 74, 75, 76, 77, 78, 79, 80, 81, 82, 83, 84, 85, 86, 87, 88, 89, 90, 91, 92, 93, 94, 95, 96, 97, 98, 99, 100, 101, 102, 103, 104, 105, 106, 107, 108, 109, 110, 111, 112, 113, 114, 115, 116, 117, 118, 119, 120, 121, 122, 123, 124, 125, 126, 127, 128, 129, 130, 131, 132, 133, 134, 140, 141, 142, 143, 144, 145, 146, 147, 148, 149, 164, 165, 166, 167, 168, 169, 170, 171, 172, 155, 156, 157, 158, 159, 160, 161, 162, 163, 173, 174] (by decide +kernel) (by decide +kernel)
set_option maxRecDepth 20000 in
theorem gX0_go_X0_choose : GoodIn wsX0_go (wsV RX0 87 RX0 yX0_choose wsX0_choose) := goodIn_app (goodIn_of _ (by decide +kernel)) ggX0_go_X0_choose
set_option maxRecDepth 20000 in
theorem ggX0_go_X4_fill : GoodIn wsX0_go wsX4_fill := goodIn_r _ [52, 53, 54, 5, 6, 7, 55, 56, 57, 58, 59, 32, 33, 34, 35, 36, 37, 60, 61, 62, 28, 63, 64, 65, 66, 67, 68, 69, 70, 71, 72, 73, 74, 75, 76, 77, 78, 79, 80, 81, 82, 83, 84, 85, 86, 87, 88, 89, 90, 91, 51, 92, 93, 94, 95, 96, 97, 98, 99, 100, 101, 102, 103, 104, 105, 106, 107, 108, 109, 110, 111, 112, 113, 114, 115, 116, 117, 118, 119, 120, 121, 122, 123, 124, 125, 126, 127, 128, 129, 130, 131, 132, 133, 134, 173, 174, 155, 156, 157, 158, 159, 160, 161, 162, 163, 164, 165, 166, 167, 168, 169, 170, 171, 172] (by decide +kernel) (by decide +kernel)
set_option maxRecDepth 20000 in
theorem gX0_go_X4_fill : GoodIn wsX0_go (wsV RX0 51 RX4 yX4_fill wsX4_fill) := goodIn_app (goodIn_of _ (by decide +kernel)) ggX0_go_X4_fill
set_option maxRecDepth 20000 in
theorem ggX0_go_X6_addSlates : GoodIn wsX0_go wsX6_addSlates := goodIn_r _ [137, 138, 139, 155, 156, 157, 158, 159, 160, 161, 162, 163] (by decide +kernel) (by decide +kernel)
set_option maxRecDepth 20000 in
theorem gX0_go_X6_addSlates : GoodIn wsX0_go (va_wsS RX0 91 yX6_addSlates wsX6_addSlates) := goodIn_app (goodIn_of _ (by decide +kernel)) ggX0_go_X6_addSlates
theorem dX0_go_0 : decode cX0_go 0 = .ok (.aload_n 0, 1) := by decide +kernel
theorem dX0_go_1 : decode cX0_go 1 = .ok (.getfield 36, 3) := by decide +kernel
theorem dX0_go_4 : decode cX0_go 4 = .ok (.getfield 63, 3) := by decide +kernel
theorem dX0_go_7 : decode cX0_go 7 = .ok (.iconst 0, 1) := by decide +kernel
theorem dX0_go_8 : decode cX0_go 8 = .ok (.aload_n 0, 1) := by decide +kernel
theorem dX0_go_9 : decode cX0_go 9 = .ok (.getfield 9, 3) := by decide +kernel
theorem dX0_go_12 : decode cX0_go 12 = .ok (.iconst 0, 1) := by decide +kernel
theorem dX0_go_13 : decode cX0_go 13 = .ok (.bipush 8, 2) := by decide +kernel
theorem dX0_go_15 : decode cX0_go 15 = .ok (.invokestatic 66, 3) := by decide +kernel
theorem dX0_go_18 : decode cX0_go 18 = .ok (.aload_n 0, 1) := by decide +kernel
theorem dX0_go_19 : decode cX0_go 19 = .ok (.iconst 0, 1) := by decide +kernel
theorem dX0_go_20 : decode cX0_go 20 = .ok (.putfield 72, 3) := by decide +kernel
theorem dX0_go_23 : decode cX0_go 23 = .ok (.aload_n 0, 1) := by decide +kernel
theorem dX0_go_24 : decode cX0_go 24 = .ok (.iconst 0, 1) := by decide +kernel
theorem dX0_go_25 : decode cX0_go 25 = .ok (.putfield 75, 3) := by decide +kernel
theorem dX0_go_28 : decode cX0_go 28 = .ok (.aload_n 0, 1) := by decide +kernel
theorem dX0_go_29 : decode cX0_go 29 = .ok (.getfield 36, 3) := by decide +kernel
theorem dX0_go_32 : decode cX0_go 32 = .ok (.invokevirtual 76, 3) := by decide +kernel
theorem dX0_go_35 : decode cX0_go 35 = .ok (.astore_n 2, 1) := by decide +kernel
theorem dX0_go_36 : decode cX0_go 36 = .ok (.aload_n 0, 1) := by decide +kernel
theorem dX0_go_37 : decode cX0_go 37 = .ok (.getfield 36, 3) := by decide +kernel
theorem dX0_go_40 : decode cX0_go 40 = .ok (.getfield 80, 3) := by decide +kernel
theorem dX0_go_43 : decode cX0_go 43 = .ok (.istore_n 3, 1) := by decide +kernel
theorem dX0_go_44 : decode cX0_go 44 = .ok (.iload_n 3, 1) := by decide +kernel
theorem dX0_go_45 : decode cX0_go 45 = .ok (.bipush 20, 2) := by decide +kernel
theorem dX0_go_47 : decode cX0_go 47 = .ok (.if_icmp .ge 117, 3) := by decide +kernel
theorem dX0_go_50 : decode cX0_go 50 = .ok (.aload_n 0, 1) := by decide +kernel
theorem dX0_go_51 : decode cX0_go 51 = .ok (.getfield 28, 3) := by decide +kernel
theorem dX0_go_54 : decode cX0_go 54 = .ok (.aload_n 2, 1) := by decide +kernel
theorem dX0_go_55 : decode cX0_go 55 = .ok (.invokevirtual 83, 3) := by decide +kernel
theorem dX0_go_58 : decode cX0_go 58 = .ok (.ifCond .ne 106, 3) := by decide +kernel
theorem dX0_go_61 : decode cX0_go 61 = .ok (.iload_n 3, 1) := by decide +kernel
theorem dX0_go_62 : decode cX0_go 62 = .ok (.iconst 2, 1) := by decide +kernel
theorem dX0_go_63 : decode cX0_go 63 = .ok (.irem, 1) := by decide +kernel
theorem dX0_go_64 : decode cX0_go 64 = .ok (.ifCond .ne 10, 3) := by decide +kernel
theorem dX0_go_67 : decode cX0_go 67 = .ok (.aload_n 0, 1) := by decide +kernel
theorem dX0_go_68 : decode cX0_go 68 = .ok (.getfield 22, 3) := by decide +kernel
theorem dX0_go_71 : decode cX0_go 71 = .ok (.goto 7, 3) := by decide +kernel
theorem dX0_go_74 : decode cX0_go 74 = .ok (.aload_n 0, 1) := by decide +kernel
theorem dX0_go_75 : decode cX0_go 75 = .ok (.getfield 25, 3) := by decide +kernel
theorem dX0_go_78 : decode cX0_go 78 = .ok (.astore 4, 2) := by decide +kernel
theorem dX0_go_80 : decode cX0_go 80 = .ok (.aload_n 0, 1) := by decide +kernel
theorem dX0_go_81 : decode cX0_go 81 = .ok (.iload_n 1, 1) := by decide +kernel
theorem dX0_go_82 : decode cX0_go 82 = .ok (.aload_n 0, 1) := by decide +kernel
theorem dX0_go_83 : decode cX0_go 83 = .ok (.getfield 9, 3) := by decide +kernel
theorem dX0_go_86 : decode cX0_go 86 = .ok (.aload_n 2, 1) := by decide +kernel
theorem dX0_go_87 : decode cX0_go 87 = .ok (.invokevirtual 87, 3) := by decide +kernel
theorem dX0_go_90 : decode cX0_go 90 = .ok (.istore 5, 2) := by decide +kernel
theorem dX0_go_92 : decode cX0_go 92 = .ok (.iload 5, 2) := by decide +kernel
theorem dX0_go_94 : decode cX0_go 94 = .ok (.bipush (-4), 2) := by decide +kernel
theorem dX0_go_96 : decode cX0_go 96 = .ok (.if_icmp .eq 68, 3) := by decide +kernel
theorem dX0_go_99 : decode cX0_go 99 = .ok (.aload_n 0, 1) := by decide +kernel
theorem dX0_go_100 : decode cX0_go 100 = .ok (.getfield 32, 3) := by decide +kernel
theorem dX0_go_103 : decode cX0_go 103 = .ok (.aload 4, 2) := by decide +kernel
theorem dX0_go_105 : decode cX0_go 105 = .ok (.iload 5, 2) := by decide +kernel
theorem dX0_go_107 : decode cX0_go 107 = .ok (.aload_n 0, 1) := by decide +kernel
theorem dX0_go_108 : decode cX0_go 108 = .ok (.getfield 9, 3) := by decide +kernel
theorem dX0_go_111 : decode cX0_go 111 = .ok (.aload_n 2, 1) := by decide +kernel
theorem dX0_go_112 : decode cX0_go 112 = .ok (.invokevirtual 51, 3) := by decide +kernel
theorem dX0_go_115 : decode cX0_go 115 = .ok (.ifCond .ne 6, 3) := by decide +kernel
theorem dX0_go_118 : decode cX0_go 118 = .ok (.goto 46, 3) := by decide +kernel
theorem dX0_go_121 : decode cX0_go 121 = .ok (.aload_n 0, 1) := by decide +kernel
theorem dX0_go_122 : decode cX0_go 122 = .ok (.getfield 9, 3) := by decide +kernel
theorem dX0_go_125 : decode cX0_go 125 = .ok (.aload 4, 2) := by decide +kernel
theorem dX0_go_127 : decode cX0_go 127 = .ok (.iconst (-1), 1) := by decide +kernel
theorem dX0_go_128 : decode cX0_go 128 = .ok (.invokestatic 91, 3) := by decide +kernel
theorem dX0_go_131 : decode cX0_go 131 = .ok (.aload_n 0, 1) := by decide +kernel
theorem dX0_go_132 : decode cX0_go 132 = .ok (.dup, 1) := by decide +kernel
theorem dX0_go_133 : decode cX0_go 133 = .ok (.getfield 72, 3) := by decide +kernel
theorem dX0_go_136 : decode cX0_go 136 = .ok (.iconst 1, 1) := by decide +kernel
theorem dX0_go_137 : decode cX0_go 137 = .ok (.iadd, 1) := by decide +kernel
theorem dX0_go_138 : decode cX0_go 138 = .ok (.putfield 72, 3) := by decide +kernel
theorem dX0_go_141 : decode cX0_go 141 = .ok (.aload_n 0, 1) := by decide +kernel
theorem dX0_go_142 : decode cX0_go 142 = .ok (.dup, 1) := by decide +kernel
theorem dX0_go_143 : decode cX0_go 143 = .ok (.getfield 75, 3) := by decide +kernel
theorem dX0_go_146 : decode cX0_go 146 = .ok (.aload 4, 2) := by decide +kernel
theorem dX0_go_148 : decode cX0_go 148 = .ok (.getfield 57, 3) := by decide +kernel
theorem dX0_go_151 : decode cX0_go 151 = .ok (.iadd, 1) := by decide +kernel
theorem dX0_go_152 : decode cX0_go 152 = .ok (.putfield 75, 3) := by decide +kernel
theorem dX0_go_155 : decode cX0_go 155 = .ok (.aload 4, 2) := by decide +kernel
theorem dX0_go_157 : decode cX0_go 157 = .ok (.astore_n 2, 1) := by decide +kernel
theorem dX0_go_158 : decode cX0_go 158 = .ok (.iinc 3 1, 3) := by decide +kernel
theorem dX0_go_161 : decode cX0_go 161 = .ok (.goto (-117), 3) := by decide +kernel
theorem dX0_go_164 : decode cX0_go 164 = .ok (.aload_n 0, 1) := by decide +kernel
theorem dX0_go_165 : decode cX0_go 165 = .ok (.aload_n 0, 1) := by decide +kernel
theorem dX0_go_166 : decode cX0_go 166 = .ok (.getfield 28, 3) := by decide +kernel
theorem dX0_go_169 : decode cX0_go 169 = .ok (.aload_n 2, 1) := by decide +kernel
theorem dX0_go_170 : decode cX0_go 170 = .ok (.invokevirtual 83, 3) := by decide +kernel
theorem dX0_go_173 : decode cX0_go 173 = .ok (.putfield 95, 3) := by decide +kernel
theorem dX0_go_176 : decode cX0_go 176 = .ok (.return_, 1) := by decide +kernel
theorem dX1_init_0 : decode cX1_init 0 = .ok (.aload_n 0, 1) := by decide +kernel
theorem dX1_init_1 : decode cX1_init 1 = .ok (.invokespecial 1, 3) := by decide +kernel
theorem dX1_init_4 : decode cX1_init 4 = .ok (.aload_n 0, 1) := by decide +kernel
theorem dX1_init_5 : decode cX1_init 5 = .ok (.iload_n 1, 1) := by decide +kernel
theorem dX1_init_6 : decode cX1_init 6 = .ok (.putfield 7, 3) := by decide +kernel
theorem dX1_init_9 : decode cX1_init 9 = .ok (.aload_n 0, 1) := by decide +kernel
theorem dX1_init_10 : decode cX1_init 10 = .ok (.aload_n 2, 1) := by decide +kernel
theorem dX1_init_11 : decode cX1_init 11 = .ok (.putfield 13, 3) := by decide +kernel
theorem dX1_init_14 : decode cX1_init 14 = .ok (.aload_n 0, 1) := by decide +kernel
theorem dX1_init_15 : decode cX1_init 15 = .ok (.iload_n 3, 1) := by decide +kernel
theorem dX1_init_16 : decode cX1_init 16 = .ok (.putfield 17, 3) := by decide +kernel
theorem dX1_init_19 : decode cX1_init 19 = .ok (.aload_n 0, 1) := by decide +kernel
theorem dX1_init_20 : decode cX1_init 20 = .ok (.iload 4, 2) := by decide +kernel
theorem dX1_init_22 : decode cX1_init 22 = .ok (.putfield 20, 3) := by decide +kernel
theorem dX1_init_25 : decode cX1_init 25 = .ok (.return_, 1) := by decide +kernel
set_option maxRecDepth 20000 in
theorem ggX1_undoOn_X6_pop : GoodIn wsX1_undoOn wsX6_pop := goodIn_r _ [10, 11, 12, 13, 14, 15, 9, 16, 17, 18, 19, 20, 21, 22, 23, 32, 33, 34, 35, 36, 37, 38, 39, 40, 41, 42, 43, 44, 45] (by decide +kernel) (by decide +kernel)
set_option maxRecDepth 20000 in
theorem gX1_undoOn_X6_pop : GoodIn wsX1_undoOn (wsV RX1 23 RX6 yX6_pop wsX6_pop) := goodIn_app (goodIn_of _ (by decide +kernel)) ggX1_undoOn_X6_pop
set_option maxRecDepth 20000 in
theorem ggX1_undoOn_X6_push : GoodIn wsX1_undoOn wsX6_push := goodIn_r _ [27, 11, 17, 12, 19, 20, 9, 21, 22, 23, 32, 33, 34, 35, 36, 37, 38, 39, 40, 41, 42, 43, 44, 45] (by decide +kernel) (by decide +kernel)
set_option maxRecDepth 20000 in
theorem gX1_undoOn_X6_push : GoodIn wsX1_undoOn (wsV RX1 29 RX6 yX6_push wsX6_push) := goodIn_app (goodIn_of _ (by decide +kernel)) ggX1_undoOn_X6_push
theorem dX1_undoOn_0 : decode cX1_undoOn 0 = .ok (.aload_n 0, 1) := by decide +kernel
theorem dX1_undoOn_1 : decode cX1_undoOn 1 = .ok (.getfield 7, 3) := by decide +kernel
theorem dX1_undoOn_4 : decode cX1_undoOn 4 = .ok (.ifCond .ne 11, 3) := by decide +kernel
theorem dX1_undoOn_7 : decode cX1_undoOn 7 = .ok (.aload_n 1, 1) := by decide +kernel
theorem dX1_undoOn_8 : decode cX1_undoOn 8 = .ok (.invokevirtual 23, 3) := by decide +kernel
theorem dX1_undoOn_11 : decode cX1_undoOn 11 = .ok (.pop, 1) := by decide +kernel
theorem dX1_undoOn_12 : decode cX1_undoOn 12 = .ok (.goto 38, 3) := by decide +kernel
theorem dX1_undoOn_15 : decode cX1_undoOn 15 = .ok (.aload_n 0, 1) := by decide +kernel
theorem dX1_undoOn_16 : decode cX1_undoOn 16 = .ok (.getfield 7, 3) := by decide +kernel
theorem dX1_undoOn_19 : decode cX1_undoOn 19 = .ok (.iconst 1, 1) := by decide +kernel
theorem dX1_undoOn_20 : decode cX1_undoOn 20 = .ok (.if_icmp .ne 14, 3) := by decide +kernel
theorem dX1_undoOn_23 : decode cX1_undoOn 23 = .ok (.aload_n 1, 1) := by decide +kernel
theorem dX1_undoOn_24 : decode cX1_undoOn 24 = .ok (.aload_n 0, 1) := by decide +kernel
theorem dX1_undoOn_25 : decode cX1_undoOn 25 = .ok (.getfield 13, 3) := by decide +kernel
theorem dX1_undoOn_28 : decode cX1_undoOn 28 = .ok (.invokevirtual 29, 3) := by decide +kernel
theorem dX1_undoOn_31 : decode cX1_undoOn 31 = .ok (.goto 19, 3) := by decide +kernel
theorem dX1_undoOn_34 : decode cX1_undoOn 34 = .ok (.aload_n 1, 1) := by decide +kernel
theorem dX1_undoOn_35 : decode cX1_undoOn 35 = .ok (.getfield 33, 3) := by decide +kernel
theorem dX1_undoOn_38 : decode cX1_undoOn 38 = .ok (.aload_n 0, 1) := by decide +kernel
theorem dX1_undoOn_39 : decode cX1_undoOn 39 = .ok (.getfield 17, 3) := by decide +kernel
theorem dX1_undoOn_42 : decode cX1_undoOn 42 = .ok (.dup2, 1) := by decide +kernel
theorem dX1_undoOn_43 : decode cX1_undoOn 43 = .ok (.iaload, 1) := by decide +kernel
theorem dX1_undoOn_44 : decode cX1_undoOn 44 = .ok (.aload_n 0, 1) := by decide +kernel
theorem dX1_undoOn_45 : decode cX1_undoOn 45 = .ok (.getfield 20, 3) := by decide +kernel
theorem dX1_undoOn_48 : decode cX1_undoOn 48 = .ok (.isub, 1) := by decide +kernel
theorem dX1_undoOn_49 : decode cX1_undoOn 49 = .ok (.iastore, 1) := by decide +kernel
theorem dX1_undoOn_50 : decode cX1_undoOn 50 = .ok (.return_, 1) := by decide +kernel
theorem dX2_init_0 : decode cX2_init 0 = .ok (.aload_n 0, 1) := by decide +kernel
theorem dX2_init_1 : decode cX2_init 1 = .ok (.invokespecial 3, 3) := by decide +kernel
theorem dX2_init_4 : decode cX2_init 4 = .ok (.aload_n 0, 1) := by decide +kernel
theorem dX2_init_5 : decode cX2_init 5 = .ok (.bipush 6, 2) := by decide +kernel
theorem dX2_init_7 : decode cX2_init 7 = .ok (.anewarray 9, 3) := by decide +kernel
theorem dX2_init_10 : decode cX2_init 10 = .ok (.putfield 11, 3) := by decide +kernel
theorem dX2_init_13 : decode cX2_init 13 = .ok (.return_, 1) := by decide +kernel
theorem dX2_clear_0 : decode cX2_clear 0 = .ok (.aload_n 0, 1) := by decide +kernel
theorem dX2_clear_1 : decode cX2_clear 1 = .ok (.iconst 0, 1) := by decide +kernel
theorem dX2_clear_2 : decode cX2_clear 2 = .ok (.putfield 17, 3) := by decide +kernel
theorem dX2_clear_5 : decode cX2_clear 5 = .ok (.return_, 1) := by decide +kernel
theorem dX2_add_0 : decode cX2_add 0 = .ok (.aload_n 0, 1) := by decide +kernel
theorem dX2_add_1 : decode cX2_add 1 = .ok (.getfield 17, 3) := by decide +kernel
theorem dX2_add_4 : decode cX2_add 4 = .ok (.bipush 6, 2) := by decide +kernel
theorem dX2_add_6 : decode cX2_add 6 = .ok (.if_icmp .lt 36, 3) := by decide +kernel
theorem dX2_add_9 : decode cX2_add 9 = .ok (.iconst 1, 1) := by decide +kernel
theorem dX2_add_10 : decode cX2_add 10 = .ok (.istore_n 2, 1) := by decide +kernel
theorem dX2_add_11 : decode cX2_add 11 = .ok (.iload_n 2, 1) := by decide +kernel
theorem dX2_add_12 : decode cX2_add 12 = .ok (.bipush 6, 2) := by decide +kernel
theorem dX2_add_14 : decode cX2_add 14 = .ok (.if_icmp .ge 23, 3) := by decide +kernel
theorem dX2_add_17 : decode cX2_add 17 = .ok (.aload_n 0, 1) := by decide +kernel
theorem dX2_add_18 : decode cX2_add 18 = .ok (.getfield 11, 3) := by decide +kernel
theorem dX2_add_21 : decode cX2_add 21 = .ok (.iload_n 2, 1) := by decide +kernel
theorem dX2_add_22 : decode cX2_add 22 = .ok (.iconst 1, 1) := by decide +kernel
theorem dX2_add_23 : decode cX2_add 23 = .ok (.isub, 1) := by decide +kernel
theorem dX2_add_24 : decode cX2_add 24 = .ok (.aload_n 0, 1) := by decide +kernel
theorem dX2_add_25 : decode cX2_add 25 = .ok (.getfield 11, 3) := by decide +kernel
theorem dX2_add_28 : decode cX2_add 28 = .ok (.iload_n 2, 1) := by decide +kernel
theorem dX2_add_29 : decode cX2_add 29 = .ok (.aaload, 1) := by decide +kernel
theorem dX2_add_30 : decode cX2_add 30 = .ok (.aastore, 1) := by decide +kernel
theorem dX2_add_31 : decode cX2_add 31 = .ok (.iinc 2 1, 3) := by decide +kernel
theorem dX2_add_34 : decode cX2_add 34 = .ok (.goto (-23), 3) := by decide +kernel
theorem dX2_add_37 : decode cX2_add 37 = .ok (.aload_n 0, 1) := by decide +kernel
theorem dX2_add_38 : decode cX2_add 38 = .ok (.iconst 5, 1) := by decide +kernel
theorem dX2_add_39 : decode cX2_add 39 = .ok (.putfield 17, 3) := by decide +kernel
theorem dX2_add_42 : decode cX2_add 42 = .ok (.aload_n 0, 1) := by decide +kernel
theorem dX2_add_43 : decode cX2_add 43 = .ok (.getfield 11, 3) := by decide +kernel
theorem dX2_add_46 : decode cX2_add 46 = .ok (.aload_n 0, 1) := by decide +kernel
theorem dX2_add_47 : decode cX2_add 47 = .ok (.getfield 17, 3) := by decide +kernel
theorem dX2_add_50 : decode cX2_add 50 = .ok (.aload_n 1, 1) := by decide +kernel
theorem dX2_add_51 : decode cX2_add 51 = .ok (.aastore, 1) := by decide +kernel
theorem dX2_add_52 : decode cX2_add 52 = .ok (.aload_n 0, 1) := by decide +kernel
theorem dX2_add_53 : decode cX2_add 53 = .ok (.dup, 1) := by decide +kernel
theorem dX2_add_54 : decode cX2_add 54 = .ok (.getfield 17, 3) := by decide +kernel
theorem dX2_add_57 : decode cX2_add 57 = .ok (.iconst 1, 1) := by decide +kernel
theorem dX2_add_58 : decode cX2_add 58 = .ok (.iadd, 1) := by decide +kernel
theorem dX2_add_59 : decode cX2_add 59 = .ok (.putfield 17, 3) := by decide +kernel
theorem dX2_add_62 : decode cX2_add 62 = .ok (.return_, 1) := by decide +kernel
theorem dX2_takeLatest_0 : decode cX2_takeLatest 0 = .ok (.aload_n 0, 1) := by decide +kernel
theorem dX2_takeLatest_1 : decode cX2_takeLatest 1 = .ok (.getfield 17, 3) := by decide +kernel
theorem dX2_takeLatest_4 : decode cX2_takeLatest 4 = .ok (.ifCond .gt 5, 3) := by decide +kernel
theorem dX2_takeLatest_7 : decode cX2_takeLatest 7 = .ok (.aconst_null, 1) := by decide +kernel
theorem dX2_takeLatest_8 : decode cX2_takeLatest 8 = .ok (.areturn, 1) := by decide +kernel
theorem dX2_takeLatest_9 : decode cX2_takeLatest 9 = .ok (.aload_n 0, 1) := by decide +kernel
theorem dX2_takeLatest_10 : decode cX2_takeLatest 10 = .ok (.dup, 1) := by decide +kernel
theorem dX2_takeLatest_11 : decode cX2_takeLatest 11 = .ok (.getfield 17, 3) := by decide +kernel
theorem dX2_takeLatest_14 : decode cX2_takeLatest 14 = .ok (.iconst 1, 1) := by decide +kernel
theorem dX2_takeLatest_15 : decode cX2_takeLatest 15 = .ok (.isub, 1) := by decide +kernel
theorem dX2_takeLatest_16 : decode cX2_takeLatest 16 = .ok (.putfield 17, 3) := by decide +kernel
theorem dX2_takeLatest_19 : decode cX2_takeLatest 19 = .ok (.aload_n 0, 1) := by decide +kernel
theorem dX2_takeLatest_20 : decode cX2_takeLatest 20 = .ok (.getfield 11, 3) := by decide +kernel
theorem dX2_takeLatest_23 : decode cX2_takeLatest 23 = .ok (.aload_n 0, 1) := by decide +kernel
theorem dX2_takeLatest_24 : decode cX2_takeLatest 24 = .ok (.getfield 17, 3) := by decide +kernel
theorem dX2_takeLatest_27 : decode cX2_takeLatest 27 = .ok (.aaload, 1) := by decide +kernel
theorem dX2_takeLatest_28 : decode cX2_takeLatest 28 = .ok (.areturn, 1) := by decide +kernel
theorem dX3_init_0 : decode cX3_init 0 = .ok (.aload_n 0, 1) := by decide +kernel
theorem dX3_init_1 : decode cX3_init 1 = .ok (.invokespecial 3, 3) := by decide +kernel
theorem dX3_init_4 : decode cX3_init 4 = .ok (.aload_n 0, 1) := by decide +kernel
theorem dX3_init_5 : decode cX3_init 5 = .ok (.bipush 60, 2) := by decide +kernel
theorem dX3_init_7 : decode cX3_init 7 = .ok (.newarray .int, 2) := by decide +kernel
theorem dX3_init_9 : decode cX3_init 9 = .ok (.putfield 9, 3) := by decide +kernel
theorem dX3_init_12 : decode cX3_init 12 = .ok (.aload_n 0, 1) := by decide +kernel
theorem dX3_init_13 : decode cX3_init 13 = .ok (.bipush 60, 2) := by decide +kernel
theorem dX3_init_15 : decode cX3_init 15 = .ok (.newarray .int, 2) := by decide +kernel
theorem dX3_init_17 : decode cX3_init 17 = .ok (.putfield 15, 3) := by decide +kernel
theorem dX3_init_20 : decode cX3_init 20 = .ok (.return_, 1) := by decide +kernel
theorem dX3_begin_0 : decode cX3_begin 0 = .ok (.aload_n 0, 1) := by decide +kernel
theorem dX3_begin_1 : decode cX3_begin 1 = .ok (.iload_n 1, 1) := by decide +kernel
theorem dX3_begin_2 : decode cX3_begin 2 = .ok (.putfield 18, 3) := by decide +kernel
theorem dX3_begin_5 : decode cX3_begin 5 = .ok (.aload_n 0, 1) := by decide +kernel
theorem dX3_begin_6 : decode cX3_begin 6 = .ok (.iload_n 2, 1) := by decide +kernel
theorem dX3_begin_7 : decode cX3_begin 7 = .ok (.putfield 22, 3) := by decide +kernel
theorem dX3_begin_10 : decode cX3_begin 10 = .ok (.aload_n 0, 1) := by decide +kernel
theorem dX3_begin_11 : decode cX3_begin 11 = .ok (.iload_n 3, 1) := by decide +kernel
theorem dX3_begin_12 : decode cX3_begin 12 = .ok (.putfield 25, 3) := by decide +kernel
theorem dX3_begin_15 : decode cX3_begin 15 = .ok (.aload_n 0, 1) := by decide +kernel
theorem dX3_begin_16 : decode cX3_begin 16 = .ok (.iload 4, 2) := by decide +kernel
theorem dX3_begin_18 : decode cX3_begin 18 = .ok (.putfield 28, 3) := by decide +kernel
theorem dX3_begin_21 : decode cX3_begin 21 = .ok (.aload_n 0, 1) := by decide +kernel
theorem dX3_begin_22 : decode cX3_begin 22 = .ok (.iconst 0, 1) := by decide +kernel
theorem dX3_begin_23 : decode cX3_begin 23 = .ok (.putfield 31, 3) := by decide +kernel
theorem dX3_begin_26 : decode cX3_begin 26 = .ok (.aload_n 0, 1) := by decide +kernel
theorem dX3_begin_27 : decode cX3_begin 27 = .ok (.iconst 0, 1) := by decide +kernel
theorem dX3_begin_28 : decode cX3_begin 28 = .ok (.putfield 34, 3) := by decide +kernel
theorem dX3_begin_31 : decode cX3_begin 31 = .ok (.aload_n 0, 1) := by decide +kernel
theorem dX3_begin_32 : decode cX3_begin 32 = .ok (.iconst 0, 1) := by decide +kernel
theorem dX3_begin_33 : decode cX3_begin 33 = .ok (.putfield 37, 3) := by decide +kernel
theorem dX3_begin_36 : decode cX3_begin 36 = .ok (.return_, 1) := by decide +kernel
set_option maxRecDepth 20000 in
theorem ggX3_put_X3_startOf : GoodIn wsX3_put wsX3_startOf := goodIn_r _ [11, 3, 12, 13, 14, 15, 16, 17, 18, 19, 20] (by decide +kernel) (by decide +kernel)
set_option maxRecDepth 20000 in
theorem gX3_put_X3_startOf : GoodIn wsX3_put (wsV RX3 40 RX3 yX3_startOf wsX3_startOf) := goodIn_app (goodIn_of _ (by decide +kernel)) ggX3_put_X3_startOf
theorem dX3_put_0 : decode cX3_put 0 = .ok (.aload_n 0, 1) := by decide +kernel
theorem dX3_put_1 : decode cX3_put 1 = .ok (.getfield 31, 3) := by decide +kernel
theorem dX3_put_4 : decode cX3_put 4 = .ok (.bipush 60, 2) := by decide +kernel
theorem dX3_put_6 : decode cX3_put 6 = .ok (.if_icmp .lt 4, 3) := by decide +kernel
theorem dX3_put_9 : decode cX3_put 9 = .ok (.return_, 1) := by decide +kernel
theorem dX3_put_10 : decode cX3_put 10 = .ok (.aload_n 0, 1) := by decide +kernel
theorem dX3_put_11 : decode cX3_put 11 = .ok (.getfield 9, 3) := by decide +kernel
theorem dX3_put_14 : decode cX3_put 14 = .ok (.aload_n 0, 1) := by decide +kernel
theorem dX3_put_15 : decode cX3_put 15 = .ok (.getfield 31, 3) := by decide +kernel
theorem dX3_put_18 : decode cX3_put 18 = .ok (.iload_n 1, 1) := by decide +kernel
theorem dX3_put_19 : decode cX3_put 19 = .ok (.iastore, 1) := by decide +kernel
theorem dX3_put_20 : decode cX3_put 20 = .ok (.aload_n 0, 1) := by decide +kernel
theorem dX3_put_21 : decode cX3_put 21 = .ok (.getfield 15, 3) := by decide +kernel
theorem dX3_put_24 : decode cX3_put 24 = .ok (.aload_n 0, 1) := by decide +kernel
theorem dX3_put_25 : decode cX3_put 25 = .ok (.getfield 31, 3) := by decide +kernel
theorem dX3_put_28 : decode cX3_put 28 = .ok (.aload_n 0, 1) := by decide +kernel
theorem dX3_put_29 : decode cX3_put 29 = .ok (.aload_n 0, 1) := by decide +kernel
theorem dX3_put_30 : decode cX3_put 30 = .ok (.getfield 31, 3) := by decide +kernel
theorem dX3_put_33 : decode cX3_put 33 = .ok (.invokevirtual 40, 3) := by decide +kernel
theorem dX3_put_36 : decode cX3_put 36 = .ok (.iload_n 3, 1) := by decide +kernel
theorem dX3_put_37 : decode cX3_put 37 = .ok (.iadd, 1) := by decide +kernel
theorem dX3_put_38 : decode cX3_put 38 = .ok (.iastore, 1) := by decide +kernel
theorem dX3_put_39 : decode cX3_put 39 = .ok (.aload_n 0, 1) := by decide +kernel
theorem dX3_put_40 : decode cX3_put 40 = .ok (.dup, 1) := by decide +kernel
theorem dX3_put_41 : decode cX3_put 41 = .ok (.getfield 31, 3) := by decide +kernel
theorem dX3_put_44 : decode cX3_put 44 = .ok (.iconst 1, 1) := by decide +kernel
theorem dX3_put_45 : decode cX3_put 45 = .ok (.iadd, 1) := by decide +kernel
theorem dX3_put_46 : decode cX3_put 46 = .ok (.putfield 31, 3) := by decide +kernel
theorem dX3_put_49 : decode cX3_put 49 = .ok (.iload_n 3, 1) := by decide +kernel
theorem dX3_put_50 : decode cX3_put 50 = .ok (.iload_n 2, 1) := by decide +kernel
theorem dX3_put_51 : decode cX3_put 51 = .ok (.if_icmp .ge 30, 3) := by decide +kernel
theorem dX3_put_54 : decode cX3_put 54 = .ok (.aload_n 0, 1) := by decide +kernel
theorem dX3_put_55 : decode cX3_put 55 = .ok (.dup, 1) := by decide +kernel
theorem dX3_put_56 : decode cX3_put 56 = .ok (.getfield 37, 3) := by decide +kernel
theorem dX3_put_59 : decode cX3_put 59 = .ok (.iconst 1, 1) := by decide +kernel
theorem dX3_put_60 : decode cX3_put 60 = .ok (.iadd, 1) := by decide +kernel
theorem dX3_put_61 : decode cX3_put 61 = .ok (.putfield 37, 3) := by decide +kernel
theorem dX3_put_64 : decode cX3_put 64 = .ok (.aload_n 0, 1) := by decide +kernel
theorem dX3_put_65 : decode cX3_put 65 = .ok (.dup, 1) := by decide +kernel
theorem dX3_put_66 : decode cX3_put 66 = .ok (.getfield 34, 3) := by decide +kernel
theorem dX3_put_69 : decode cX3_put 69 = .ok (.iload_n 2, 1) := by decide +kernel
theorem dX3_put_70 : decode cX3_put 70 = .ok (.iload_n 3, 1) := by decide +kernel
theorem dX3_put_71 : decode cX3_put 71 = .ok (.isub, 1) := by decide +kernel
theorem dX3_put_72 : decode cX3_put 72 = .ok (.aload_n 0, 1) := by decide +kernel
theorem dX3_put_73 : decode cX3_put 73 = .ok (.getfield 18, 3) := by decide +kernel
theorem dX3_put_76 : decode cX3_put 76 = .ok (.imul, 1) := by decide +kernel
theorem dX3_put_77 : decode cX3_put 77 = .ok (.iadd, 1) := by decide +kernel
theorem dX3_put_78 : decode cX3_put 78 = .ok (.putfield 34, 3) := by decide +kernel
theorem dX3_put_81 : decode cX3_put 81 = .ok (.return_, 1) := by decide +kernel
theorem dX3_startOf_0 : decode cX3_startOf 0 = .ok (.iload_n 1, 1) := by decide +kernel
theorem dX3_startOf_1 : decode cX3_startOf 1 = .ok (.ifCond .le 20, 3) := by decide +kernel
theorem dX3_startOf_4 : decode cX3_startOf 4 = .ok (.iload_n 1, 1) := by decide +kernel
theorem dX3_startOf_5 : decode cX3_startOf 5 = .ok (.bipush 60, 2) := by decide +kernel
theorem dX3_startOf_7 : decode cX3_startOf 7 = .ok (.if_icmp .gt 14, 3) := by decide +kernel
theorem dX3_startOf_10 : decode cX3_startOf 10 = .ok (.aload_n 0, 1) := by decide +kernel
theorem dX3_startOf_11 : decode cX3_startOf 11 = .ok (.getfield 15, 3) := by decide +kernel
theorem dX3_startOf_14 : decode cX3_startOf 14 = .ok (.iload_n 1, 1) := by decide +kernel
theorem dX3_startOf_15 : decode cX3_startOf 15 = .ok (.iconst 1, 1) := by decide +kernel
theorem dX3_startOf_16 : decode cX3_startOf 16 = .ok (.isub, 1) := by decide +kernel
theorem dX3_startOf_17 : decode cX3_startOf 17 = .ok (.iaload, 1) := by decide +kernel
theorem dX3_startOf_18 : decode cX3_startOf 18 = .ok (.goto 4, 3) := by decide +kernel
theorem dX3_startOf_21 : decode cX3_startOf 21 = .ok (.iconst 0, 1) := by decide +kernel
theorem dX3_startOf_22 : decode cX3_startOf 22 = .ok (.ireturn, 1) := by decide +kernel
theorem dX3_head_0 : decode cX3_head 0 = .ok (.aload_n 0, 1) := by decide +kernel
theorem dX3_head_1 : decode cX3_head 1 = .ok (.getfield 22, 3) := by decide +kernel
theorem dX3_head_4 : decode cX3_head 4 = .ok (.aload_n 0, 1) := by decide +kernel
theorem dX3_head_5 : decode cX3_head 5 = .ok (.getfield 25, 3) := by decide +kernel
theorem dX3_head_8 : decode cX3_head 8 = .ok (.iadd, 1) := by decide +kernel
theorem dX3_head_9 : decode cX3_head 9 = .ok (.ireturn, 1) := by decide +kernel
theorem dX3_joints_0 : decode cX3_joints 0 = .ok (.iconst 0, 1) := by decide +kernel
theorem dX3_joints_1 : decode cX3_joints 1 = .ok (.aload_n 0, 1) := by decide +kernel
theorem dX3_joints_2 : decode cX3_joints 2 = .ok (.getfield 31, 3) := by decide +kernel
theorem dX3_joints_5 : decode cX3_joints 5 = .ok (.iconst 1, 1) := by decide +kernel
theorem dX3_joints_6 : decode cX3_joints 6 = .ok (.isub, 1) := by decide +kernel
theorem dX3_joints_7 : decode cX3_joints 7 = .ok (.invokestatic 44, 3) := by decide +kernel
theorem dX3_joints_10 : decode cX3_joints 10 = .ok (.ireturn, 1) := by decide +kernel
set_option maxRecDepth 20000 in
theorem ggX3_isBrokenAt_X3_joints : GoodIn wsX3_isBrokenAt wsX3_joints := goodIn_r _ [10, 11, 12, 13, 4, 14, 15, 16, 17, 18, 19, 20, 21, 22, 23] (by decide +kernel) (by decide +kernel)
set_option maxRecDepth 20000 in
theorem gX3_isBrokenAt_X3_joints : GoodIn wsX3_isBrokenAt (wsV RX3 50 RX3 yX3_joints wsX3_joints) := goodIn_app (goodIn_of _ (by decide +kernel)) ggX3_isBrokenAt_X3_joints
theorem dX3_isBrokenAt_0 : decode cX3_isBrokenAt 0 = .ok (.iconst 0, 1) := by decide +kernel
theorem dX3_isBrokenAt_1 : decode cX3_isBrokenAt 1 = .ok (.istore_n 3, 1) := by decide +kernel
theorem dX3_isBrokenAt_2 : decode cX3_isBrokenAt 2 = .ok (.iload_n 3, 1) := by decide +kernel
theorem dX3_isBrokenAt_3 : decode cX3_isBrokenAt 3 = .ok (.aload_n 0, 1) := by decide +kernel
theorem dX3_isBrokenAt_4 : decode cX3_isBrokenAt 4 = .ok (.invokevirtual 50, 3) := by decide +kernel
theorem dX3_isBrokenAt_7 : decode cX3_isBrokenAt 7 = .ok (.if_icmp .ge 26, 3) := by decide +kernel
theorem dX3_isBrokenAt_10 : decode cX3_isBrokenAt 10 = .ok (.aload_n 0, 1) := by decide +kernel
theorem dX3_isBrokenAt_11 : decode cX3_isBrokenAt 11 = .ok (.getfield 15, 3) := by decide +kernel
theorem dX3_isBrokenAt_14 : decode cX3_isBrokenAt 14 = .ok (.iload_n 3, 1) := by decide +kernel
theorem dX3_isBrokenAt_15 : decode cX3_isBrokenAt 15 = .ok (.iaload, 1) := by decide +kernel
theorem dX3_isBrokenAt_16 : decode cX3_isBrokenAt 16 = .ok (.iload_n 1, 1) := by decide +kernel
theorem dX3_isBrokenAt_17 : decode cX3_isBrokenAt 17 = .ok (.isub, 1) := by decide +kernel
theorem dX3_isBrokenAt_18 : decode cX3_isBrokenAt 18 = .ok (.invokestatic 54, 3) := by decide +kernel
theorem dX3_isBrokenAt_21 : decode cX3_isBrokenAt 21 = .ok (.iload_n 2, 1) := by decide +kernel
theorem dX3_isBrokenAt_22 : decode cX3_isBrokenAt 22 = .ok (.if_icmp .ge 5, 3) := by decide +kernel
theorem dX3_isBrokenAt_25 : decode cX3_isBrokenAt 25 = .ok (.iconst 0, 1) := by decide +kernel
theorem dX3_isBrokenAt_26 : decode cX3_isBrokenAt 26 = .ok (.ireturn, 1) := by decide +kernel
theorem dX3_isBrokenAt_27 : decode cX3_isBrokenAt 27 = .ok (.iinc 3 1, 3) := by decide +kernel
theorem dX3_isBrokenAt_30 : decode cX3_isBrokenAt 30 = .ok (.goto (-28), 3) := by decide +kernel
theorem dX3_isBrokenAt_33 : decode cX3_isBrokenAt 33 = .ok (.iconst 1, 1) := by decide +kernel
theorem dX3_isBrokenAt_34 : decode cX3_isBrokenAt 34 = .ok (.ireturn, 1) := by decide +kernel
theorem dX4_init_0 : decode cX4_init 0 = .ok (.aload_n 0, 1) := by decide +kernel
theorem dX4_init_1 : decode cX4_init 1 = .ok (.invokespecial 3, 3) := by decide +kernel
theorem dX4_init_4 : decode cX4_init 4 = .ok (.aload_n 0, 1) := by decide +kernel
theorem dX4_init_5 : decode cX4_init 5 = .ok (.bipush 8, 2) := by decide +kernel
theorem dX4_init_7 : decode cX4_init 7 = .ok (.newarray .int, 2) := by decide +kernel
theorem dX4_init_9 : decode cX4_init 9 = .ok (.putfield 9, 3) := by decide +kernel
theorem dX4_init_12 : decode cX4_init 12 = .ok (.aload_n 0, 1) := by decide +kernel
theorem dX4_init_13 : decode cX4_init 13 = .ok (.aload_n 1, 1) := by decide +kernel
theorem dX4_init_14 : decode cX4_init 14 = .ok (.putfield 15, 3) := by decide +kernel
theorem dX4_init_17 : decode cX4_init 17 = .ok (.return_, 1) := by decide +kernel
set_option maxRecDepth 20000 in
theorem ggX4_fill_X3_head : GoodIn wsX4_fill wsX3_head := goodIn_r _ [14, 15, 16, 96, 97, 98, 99, 100, 101, 102, 103, 104] (by decide +kernel) (by decide +kernel)
set_option maxRecDepth 20000 in
theorem gX4_fill_X3_head : GoodIn wsX4_fill (wsV RX4 25 RX3 yX3_head wsX3_head) := goodIn_app (goodIn_of _ (by decide +kernel)) ggX4_fill_X3_head
set_option maxRecDepth 20000 in
theorem ggX4_fill_X5_gaugeOf : GoodIn wsX4_fill wsX5_gaugeOf := goodIn_r _ [21, 22, 105, 106, 107, 108, 109, 110, 111, 112, 113] (by decide +kernel) (by decide +kernel)
set_option maxRecDepth 20000 in
theorem gX4_fill_X5_gaugeOf : GoodIn wsX4_fill (wsV RX4 31 RX5 yX5_gaugeOf wsX5_gaugeOf) := goodIn_app (goodIn_of _ (by decide +kernel)) ggX4_fill_X5_gaugeOf
set_option maxRecDepth 20000 in
theorem ggX4_fill_X5_roomAt : GoodIn wsX4_fill wsX5_roomAt := goodIn_r _ [26, 27, 28, 29, 30, 31, 32, 105, 106, 107, 108, 109, 110, 111, 112, 113] (by decide +kernel) (by decide +kernel)
set_option maxRecDepth 20000 in
theorem gX4_fill_X5_roomAt : GoodIn wsX4_fill (wsV RX4 37 RX5 yX5_roomAt wsX5_roomAt) := goodIn_app (goodIn_of _ (by decide +kernel)) ggX4_fill_X5_roomAt
set_option maxRecDepth 20000 in
theorem ggX4_fill_X3_begin : GoodIn wsX4_fill wsX3_begin := goodIn_r _ [36, 37, 15, 16, 38, 39, 40, 41, 96, 97, 98, 99, 100, 101, 102, 103, 104] (by decide +kernel) (by decide +kernel)
set_option maxRecDepth 20000 in
theorem gX4_fill_X3_begin : GoodIn wsX4_fill (wsV RX4 40 RX3 yX3_begin wsX3_begin) := goodIn_app (goodIn_of _ (by decide +kernel)) ggX4_fill_X3_begin
set_option maxRecDepth 20000 in
theorem ggX4_fill_X3_startOf : GoodIn wsX4_fill wsX3_startOf := goodIn_r _ [45, 46, 96, 97, 98, 99, 100, 101, 102, 103, 104] (by decide +kernel) (by decide +kernel)
set_option maxRecDepth 20000 in
theorem gX4_fill_X3_startOf : GoodIn wsX4_fill (wsV RX4 48 RX3 yX3_startOf wsX3_startOf) := goodIn_app (goodIn_of _ (by decide +kernel)) ggX4_fill_X3_startOf
set_option maxRecDepth 20000 in
theorem ggX4_fill_X4_endingAt : GoodIn wsX4_fill wsX4_endingAt := goodIn_r _ [51, 6, 52, 8, 9, 53, 54, 55, 50, 56, 57, 58, 1, 94, 95, 105, 106, 107, 108, 109, 110, 111, 112, 113, 96, 97, 98, 99, 100, 101, 102, 103, 104] (by decide +kernel) (by decide +kernel)
set_option maxRecDepth 20000 in
theorem gX4_fill_X4_endingAt : GoodIn wsX4_fill (wsV RX4 51 RX4 yX4_endingAt wsX4_endingAt) := goodIn_app (goodIn_of _ (by decide +kernel)) ggX4_fill_X4_endingAt
set_option maxRecDepth 20000 in
theorem ggX4_fill_X3_put : GoodIn wsX4_fill wsX3_put := goodIn_r _ [62, 39, 63, 46, 41, 40, 37, 64, 43, 44, 13, 45, 96, 97, 98, 99, 100, 101, 102, 103, 104] (by decide +kernel) (by decide +kernel)
set_option maxRecDepth 20000 in
theorem gX4_fill_X3_put : GoodIn wsX4_fill (wsV RX4 61 RX3 yX3_put wsX3_put) := goodIn_app (goodIn_of _ (by decide +kernel)) ggX4_fill_X3_put
set_option maxRecDepth 20000 in
theorem ggX4_fill_X4_putWithJoint : GoodIn wsX4_fill wsX4_putWithJoint := goodIn_r _ [68, 1, 6, 8, 69, 70, 71, 50, 72, 52, 73, 53, 54, 55, 56, 57, 58, 74, 75, 76, 13, 77, 46, 78, 79, 31, 80, 81, 82, 83, 84, 39, 85, 30, 32, 59, 60, 61, 62, 63, 41, 40, 37, 64, 43, 44, 45, 86, 87, 88, 89, 90, 91, 92, 93, 94, 95, 105, 106, 107, 108, 109, 110, 111, 112, 113, 96, 97, 98, 99, 100, 101, 102, 103, 104] (by decide +kernel) (by decide +kernel)
set_option maxRecDepth 20000 in
theorem gX4_fill_X4_putWithJoint : GoodIn wsX4_fill (wsV RX4 65 RX4 yX4_putWithJoint wsX4_putWithJoint) := goodIn_app (goodIn_of _ (by decide +kernel)) ggX4_fill_X4_putWithJoint
theorem dX4_fill_0 : decode cX4_fill 0 = .ok (.aload_n 3, 1) := by decide +kernel
theorem dX4_fill_1 : decode cX4_fill 1 = .ok (.iconst 0, 1) := by decide +kernel
theorem dX4_fill_2 : decode cX4_fill 2 = .ok (.aload_n 0, 1) := by decide +kernel
theorem dX4_fill_3 : decode cX4_fill 3 = .ok (.getfield 9, 3) := by decide +kernel
theorem dX4_fill_6 : decode cX4_fill 6 = .ok (.iconst 0, 1) := by decide +kernel
theorem dX4_fill_7 : decode cX4_fill 7 = .ok (.bipush 8, 2) := by decide +kernel
theorem dX4_fill_9 : decode cX4_fill 9 = .ok (.invokestatic 19, 3) := by decide +kernel
theorem dX4_fill_12 : decode cX4_fill 12 = .ok (.aload 4, 2) := by decide +kernel
theorem dX4_fill_14 : decode cX4_fill 14 = .ok (.invokevirtual 25, 3) := by decide +kernel
theorem dX4_fill_17 : decode cX4_fill 17 = .ok (.istore 5, 2) := by decide +kernel
theorem dX4_fill_19 : decode cX4_fill 19 = .ok (.aload_n 1, 1) := by decide +kernel
theorem dX4_fill_20 : decode cX4_fill 20 = .ok (.iload_n 2, 1) := by decide +kernel
theorem dX4_fill_21 : decode cX4_fill 21 = .ok (.iload 5, 2) := by decide +kernel
theorem dX4_fill_23 : decode cX4_fill 23 = .ok (.aload_n 0, 1) := by decide +kernel
theorem dX4_fill_24 : decode cX4_fill 24 = .ok (.getfield 15, 3) := by decide +kernel
theorem dX4_fill_27 : decode cX4_fill 27 = .ok (.iload_n 2, 1) := by decide +kernel
theorem dX4_fill_28 : decode cX4_fill 28 = .ok (.invokevirtual 31, 3) := by decide +kernel
theorem dX4_fill_31 : decode cX4_fill 31 = .ok (.aload_n 0, 1) := by decide +kernel
theorem dX4_fill_32 : decode cX4_fill 32 = .ok (.getfield 15, 3) := by decide +kernel
theorem dX4_fill_35 : decode cX4_fill 35 = .ok (.iload 5, 2) := by decide +kernel
theorem dX4_fill_37 : decode cX4_fill 37 = .ok (.invokevirtual 37, 3) := by decide +kernel
theorem dX4_fill_40 : decode cX4_fill 40 = .ok (.invokevirtual 40, 3) := by decide +kernel
theorem dX4_fill_43 : decode cX4_fill 43 = .ok (.iconst 0, 1) := by decide +kernel
theorem dX4_fill_44 : decode cX4_fill 44 = .ok (.istore 6, 2) := by decide +kernel
theorem dX4_fill_46 : decode cX4_fill 46 = .ok (.iload 6, 2) := by decide +kernel
theorem dX4_fill_48 : decode cX4_fill 48 = .ok (.bipush 60, 2) := by decide +kernel
theorem dX4_fill_50 : decode cX4_fill 50 = .ok (.if_icmp .ge 72, 3) := by decide +kernel
theorem dX4_fill_53 : decode cX4_fill 53 = .ok (.aload_n 1, 1) := by decide +kernel
theorem dX4_fill_54 : decode cX4_fill 54 = .ok (.aload_n 1, 1) := by decide +kernel
theorem dX4_fill_55 : decode cX4_fill 55 = .ok (.getfield 44, 3) := by decide +kernel
theorem dX4_fill_58 : decode cX4_fill 58 = .ok (.invokevirtual 48, 3) := by decide +kernel
theorem dX4_fill_61 : decode cX4_fill 61 = .ok (.istore 7, 2) := by decide +kernel
theorem dX4_fill_63 : decode cX4_fill 63 = .ok (.aload_n 0, 1) := by decide +kernel
theorem dX4_fill_64 : decode cX4_fill 64 = .ok (.iload 7, 2) := by decide +kernel
theorem dX4_fill_66 : decode cX4_fill 66 = .ok (.aload_n 1, 1) := by decide +kernel
theorem dX4_fill_67 : decode cX4_fill 67 = .ok (.invokevirtual 51, 3) := by decide +kernel
theorem dX4_fill_70 : decode cX4_fill 70 = .ok (.istore 8, 2) := by decide +kernel
theorem dX4_fill_72 : decode cX4_fill 72 = .ok (.iload 8, 2) := by decide +kernel
theorem dX4_fill_74 : decode cX4_fill 74 = .ok (.ifCond .lt 28, 3) := by decide +kernel
theorem dX4_fill_77 : decode cX4_fill 77 = .ok (.aload_n 1, 1) := by decide +kernel
theorem dX4_fill_78 : decode cX4_fill 78 = .ok (.iload 8, 2) := by decide +kernel
theorem dX4_fill_80 : decode cX4_fill 80 = .ok (.aload_n 0, 1) := by decide +kernel
theorem dX4_fill_81 : decode cX4_fill 81 = .ok (.getfield 15, 3) := by decide +kernel
theorem dX4_fill_84 : decode cX4_fill 84 = .ok (.getfield 55, 3) := by decide +kernel
theorem dX4_fill_87 : decode cX4_fill 87 = .ok (.iload 8, 2) := by decide +kernel
theorem dX4_fill_89 : decode cX4_fill 89 = .ok (.iaload, 1) := by decide +kernel
theorem dX4_fill_90 : decode cX4_fill 90 = .ok (.aload_n 1, 1) := by decide +kernel
theorem dX4_fill_91 : decode cX4_fill 91 = .ok (.getfield 58, 3) := by decide +kernel
theorem dX4_fill_94 : decode cX4_fill 94 = .ok (.iload 7, 2) := by decide +kernel
theorem dX4_fill_96 : decode cX4_fill 96 = .ok (.isub, 1) := by decide +kernel
theorem dX4_fill_97 : decode cX4_fill 97 = .ok (.invokevirtual 61, 3) := by decide +kernel
theorem dX4_fill_100 : decode cX4_fill 100 = .ok (.iconst 1, 1) := by decide +kernel
theorem dX4_fill_101 : decode cX4_fill 101 = .ok (.ireturn, 1) := by decide +kernel
theorem dX4_fill_102 : decode cX4_fill 102 = .ok (.aload_n 0, 1) := by decide +kernel
theorem dX4_fill_103 : decode cX4_fill 103 = .ok (.aload_n 1, 1) := by decide +kernel
theorem dX4_fill_104 : decode cX4_fill 104 = .ok (.iload 7, 2) := by decide +kernel
theorem dX4_fill_106 : decode cX4_fill 106 = .ok (.aload 4, 2) := by decide +kernel
theorem dX4_fill_108 : decode cX4_fill 108 = .ok (.invokevirtual 65, 3) := by decide +kernel
theorem dX4_fill_111 : decode cX4_fill 111 = .ok (.ifCond .ne 5, 3) := by decide +kernel
theorem dX4_fill_114 : decode cX4_fill 114 = .ok (.iconst 0, 1) := by decide +kernel
theorem dX4_fill_115 : decode cX4_fill 115 = .ok (.ireturn, 1) := by decide +kernel
theorem dX4_fill_116 : decode cX4_fill 116 = .ok (.iinc 6 1, 3) := by decide +kernel
theorem dX4_fill_119 : decode cX4_fill 119 = .ok (.goto (-73), 3) := by decide +kernel
theorem dX4_fill_122 : decode cX4_fill 122 = .ok (.iconst 0, 1) := by decide +kernel
theorem dX4_fill_123 : decode cX4_fill 123 = .ok (.ireturn, 1) := by decide +kernel
set_option maxRecDepth 20000 in
theorem ggX4_putWithJoint_X4_brokenAt : GoodIn wsX4_putWithJoint wsX4_brokenAt := goodIn_r _ [8, 2, 9, 3, 10, 11, 12, 13, 7, 14, 15, 16, 1, 17, 18, 19, 20, 21, 22, 23, 24, 25, 26, 27, 28, 29, 30, 31, 32, 33, 34, 55, 56, 57, 58, 59, 60, 61, 62, 63, 64, 65, 66, 67, 68, 69, 70, 71, 72, 73, 74] (by decide +kernel) (by decide +kernel)
set_option maxRecDepth 20000 in
theorem gX4_putWithJoint_X4_brokenAt : GoodIn wsX4_putWithJoint (wsV RX4 69 RX4 yX4_brokenAt wsX4_brokenAt) := goodIn_app (goodIn_of _ (by decide +kernel)) ggX4_putWithJoint_X4_brokenAt
set_option maxRecDepth 20000 in
theorem ggX4_putWithJoint_X3_put : GoodIn wsX4_putWithJoint wsX3_put := goodIn_r _ [38, 31, 39, 22, 40, 41, 42, 43, 44, 45, 20, 46, 66, 67, 68, 69, 70, 71, 72, 73, 74] (by decide +kernel) (by decide +kernel)
set_option maxRecDepth 20000 in
theorem gX4_putWithJoint_X3_put : GoodIn wsX4_putWithJoint (wsV RX4 61 RX3 yX3_put wsX3_put) := goodIn_app (goodIn_of _ (by decide +kernel)) ggX4_putWithJoint_X3_put
set_option maxRecDepth 20000 in
theorem ggX4_putWithJoint_X4_broadestFor : GoodIn wsX4_putWithJoint wsX4_broadestFor := goodIn_r _ [50, 2, 9, 11, 12, 13, 7, 14, 15, 16, 1, 55, 56, 57, 58, 59, 60, 61, 62, 63, 64, 65, 66, 67, 68, 69, 70, 71, 72, 73, 74] (by decide +kernel) (by decide +kernel)
set_option maxRecDepth 20000 in
theorem gX4_putWithJoint_X4_broadestFor : GoodIn wsX4_putWithJoint (wsV RX4 73 RX4 yX4_broadestFor wsX4_broadestFor) := goodIn_app (goodIn_of _ (by decide +kernel)) ggX4_putWithJoint_X4_broadestFor
set_option maxRecDepth 20000 in
theorem ggX4_putWithJoint_X4_cutAt : GoodIn wsX4_putWithJoint wsX4_cutAt := goodIn_r _ [54, 2, 10, 17, 18, 19, 20, 21, 22, 23, 24, 25, 26, 27, 28, 29, 30, 31, 32, 33, 34, 55, 56, 57, 58, 59, 60, 61, 62, 63, 64, 65, 66, 67, 68, 69, 70, 71, 72, 73, 74] (by decide +kernel) (by decide +kernel)
set_option maxRecDepth 20000 in
theorem gX4_putWithJoint_X4_cutAt : GoodIn wsX4_putWithJoint (wsV RX4 77 RX4 yX4_cutAt wsX4_cutAt) := goodIn_app (goodIn_of _ (by decide +kernel)) ggX4_putWithJoint_X4_cutAt
theorem dX4_putWithJoint_0 : decode cX4_putWithJoint 0 = .ok (.aload_n 0, 1) := by decide +kernel
theorem dX4_putWithJoint_1 : decode cX4_putWithJoint 1 = .ok (.iload_n 2, 1) := by decide +kernel
theorem dX4_putWithJoint_2 : decode cX4_putWithJoint 2 = .ok (.aload_n 1, 1) := by decide +kernel
theorem dX4_putWithJoint_3 : decode cX4_putWithJoint 3 = .ok (.aload_n 3, 1) := by decide +kernel
theorem dX4_putWithJoint_4 : decode cX4_putWithJoint 4 = .ok (.invokevirtual 69, 3) := by decide +kernel
theorem dX4_putWithJoint_7 : decode cX4_putWithJoint 7 = .ok (.istore 4, 2) := by decide +kernel
theorem dX4_putWithJoint_9 : decode cX4_putWithJoint 9 = .ok (.iload 4, 2) := by decide +kernel
theorem dX4_putWithJoint_11 : decode cX4_putWithJoint 11 = .ok (.ifCond .lt 42, 3) := by decide +kernel
theorem dX4_putWithJoint_14 : decode cX4_putWithJoint 14 = .ok (.aload_n 0, 1) := by decide +kernel
theorem dX4_putWithJoint_15 : decode cX4_putWithJoint 15 = .ok (.getfield 9, 3) := by decide +kernel
theorem dX4_putWithJoint_18 : decode cX4_putWithJoint 18 = .ok (.iload 4, 2) := by decide +kernel
theorem dX4_putWithJoint_20 : decode cX4_putWithJoint 20 = .ok (.dup2, 1) := by decide +kernel
theorem dX4_putWithJoint_21 : decode cX4_putWithJoint 21 = .ok (.iaload, 1) := by decide +kernel
theorem dX4_putWithJoint_22 : decode cX4_putWithJoint 22 = .ok (.iconst 1, 1) := by decide +kernel
theorem dX4_putWithJoint_23 : decode cX4_putWithJoint 23 = .ok (.isub, 1) := by decide +kernel
theorem dX4_putWithJoint_24 : decode cX4_putWithJoint 24 = .ok (.iastore, 1) := by decide +kernel
theorem dX4_putWithJoint_25 : decode cX4_putWithJoint 25 = .ok (.aload_n 1, 1) := by decide +kernel
theorem dX4_putWithJoint_26 : decode cX4_putWithJoint 26 = .ok (.iload 4, 2) := by decide +kernel
theorem dX4_putWithJoint_28 : decode cX4_putWithJoint 28 = .ok (.aload_n 0, 1) := by decide +kernel
theorem dX4_putWithJoint_29 : decode cX4_putWithJoint 29 = .ok (.getfield 15, 3) := by decide +kernel
theorem dX4_putWithJoint_32 : decode cX4_putWithJoint 32 = .ok (.getfield 55, 3) := by decide +kernel
theorem dX4_putWithJoint_35 : decode cX4_putWithJoint 35 = .ok (.iload 4, 2) := by decide +kernel
theorem dX4_putWithJoint_37 : decode cX4_putWithJoint 37 = .ok (.iaload, 1) := by decide +kernel
theorem dX4_putWithJoint_38 : decode cX4_putWithJoint 38 = .ok (.aload_n 0, 1) := by decide +kernel
theorem dX4_putWithJoint_39 : decode cX4_putWithJoint 39 = .ok (.getfield 15, 3) := by decide +kernel
theorem dX4_putWithJoint_42 : decode cX4_putWithJoint 42 = .ok (.getfield 55, 3) := by decide +kernel
theorem dX4_putWithJoint_45 : decode cX4_putWithJoint 45 = .ok (.iload 4, 2) := by decide +kernel
theorem dX4_putWithJoint_47 : decode cX4_putWithJoint 47 = .ok (.iaload, 1) := by decide +kernel
theorem dX4_putWithJoint_48 : decode cX4_putWithJoint 48 = .ok (.invokevirtual 61, 3) := by decide +kernel
theorem dX4_putWithJoint_51 : decode cX4_putWithJoint 51 = .ok (.iconst 1, 1) := by decide +kernel
theorem dX4_putWithJoint_52 : decode cX4_putWithJoint 52 = .ok (.ireturn, 1) := by decide +kernel
theorem dX4_putWithJoint_53 : decode cX4_putWithJoint 53 = .ok (.aload_n 0, 1) := by decide +kernel
theorem dX4_putWithJoint_54 : decode cX4_putWithJoint 54 = .ok (.aload_n 1, 1) := by decide +kernel
theorem dX4_putWithJoint_55 : decode cX4_putWithJoint 55 = .ok (.invokevirtual 73, 3) := by decide +kernel
theorem dX4_putWithJoint_58 : decode cX4_putWithJoint 58 = .ok (.istore 5, 2) := by decide +kernel
theorem dX4_putWithJoint_60 : decode cX4_putWithJoint 60 = .ok (.iload 5, 2) := by decide +kernel
theorem dX4_putWithJoint_62 : decode cX4_putWithJoint 62 = .ok (.ifCond .ge 5, 3) := by decide +kernel
theorem dX4_putWithJoint_65 : decode cX4_putWithJoint 65 = .ok (.iconst 0, 1) := by decide +kernel
theorem dX4_putWithJoint_66 : decode cX4_putWithJoint 66 = .ok (.ireturn, 1) := by decide +kernel
theorem dX4_putWithJoint_67 : decode cX4_putWithJoint 67 = .ok (.aload_n 0, 1) := by decide +kernel
theorem dX4_putWithJoint_68 : decode cX4_putWithJoint 68 = .ok (.iload_n 2, 1) := by decide +kernel
theorem dX4_putWithJoint_69 : decode cX4_putWithJoint 69 = .ok (.aload_n 0, 1) := by decide +kernel
theorem dX4_putWithJoint_70 : decode cX4_putWithJoint 70 = .ok (.getfield 15, 3) := by decide +kernel
theorem dX4_putWithJoint_73 : decode cX4_putWithJoint 73 = .ok (.getfield 55, 3) := by decide +kernel
theorem dX4_putWithJoint_76 : decode cX4_putWithJoint 76 = .ok (.iload 5, 2) := by decide +kernel
theorem dX4_putWithJoint_78 : decode cX4_putWithJoint 78 = .ok (.iaload, 1) := by decide +kernel
theorem dX4_putWithJoint_79 : decode cX4_putWithJoint 79 = .ok (.aload_n 3, 1) := by decide +kernel
theorem dX4_putWithJoint_80 : decode cX4_putWithJoint 80 = .ok (.invokevirtual 77, 3) := by decide +kernel
theorem dX4_putWithJoint_83 : decode cX4_putWithJoint 83 = .ok (.istore 6, 2) := by decide +kernel
theorem dX4_putWithJoint_85 : decode cX4_putWithJoint 85 = .ok (.iload 6, 2) := by decide +kernel
theorem dX4_putWithJoint_87 : decode cX4_putWithJoint 87 = .ok (.iconst 1, 1) := by decide +kernel
theorem dX4_putWithJoint_88 : decode cX4_putWithJoint 88 = .ok (.if_icmp .ge 5, 3) := by decide +kernel
theorem dX4_putWithJoint_91 : decode cX4_putWithJoint 91 = .ok (.iconst 0, 1) := by decide +kernel
theorem dX4_putWithJoint_92 : decode cX4_putWithJoint 92 = .ok (.ireturn, 1) := by decide +kernel
theorem dX4_putWithJoint_93 : decode cX4_putWithJoint 93 = .ok (.aload_n 0, 1) := by decide +kernel
theorem dX4_putWithJoint_94 : decode cX4_putWithJoint 94 = .ok (.getfield 9, 3) := by decide +kernel
theorem dX4_putWithJoint_97 : decode cX4_putWithJoint 97 = .ok (.iload 5, 2) := by decide +kernel
theorem dX4_putWithJoint_99 : decode cX4_putWithJoint 99 = .ok (.dup2, 1) := by decide +kernel
theorem dX4_putWithJoint_100 : decode cX4_putWithJoint 100 = .ok (.iaload, 1) := by decide +kernel
theorem dX4_putWithJoint_101 : decode cX4_putWithJoint 101 = .ok (.iconst 1, 1) := by decide +kernel
theorem dX4_putWithJoint_102 : decode cX4_putWithJoint 102 = .ok (.isub, 1) := by decide +kernel
theorem dX4_putWithJoint_103 : decode cX4_putWithJoint 103 = .ok (.iastore, 1) := by decide +kernel
theorem dX4_putWithJoint_104 : decode cX4_putWithJoint 104 = .ok (.aload_n 1, 1) := by decide +kernel
theorem dX4_putWithJoint_105 : decode cX4_putWithJoint 105 = .ok (.iload 5, 2) := by decide +kernel
theorem dX4_putWithJoint_107 : decode cX4_putWithJoint 107 = .ok (.aload_n 0, 1) := by decide +kernel
theorem dX4_putWithJoint_108 : decode cX4_putWithJoint 108 = .ok (.getfield 15, 3) := by decide +kernel
theorem dX4_putWithJoint_111 : decode cX4_putWithJoint 111 = .ok (.getfield 55, 3) := by decide +kernel
theorem dX4_putWithJoint_114 : decode cX4_putWithJoint 114 = .ok (.iload 5, 2) := by decide +kernel
theorem dX4_putWithJoint_116 : decode cX4_putWithJoint 116 = .ok (.iaload, 1) := by decide +kernel
theorem dX4_putWithJoint_117 : decode cX4_putWithJoint 117 = .ok (.iload 6, 2) := by decide +kernel
theorem dX4_putWithJoint_119 : decode cX4_putWithJoint 119 = .ok (.invokevirtual 61, 3) := by decide +kernel
theorem dX4_putWithJoint_122 : decode cX4_putWithJoint 122 = .ok (.iconst 1, 1) := by decide +kernel
theorem dX4_putWithJoint_123 : decode cX4_putWithJoint 123 = .ok (.ireturn, 1) := by decide +kernel
theorem dX4_serves_0 : decode cX4_serves 0 = .ok (.aload_n 0, 1) := by decide +kernel
theorem dX4_serves_1 : decode cX4_serves 1 = .ok (.getfield 15, 3) := by decide +kernel
theorem dX4_serves_4 : decode cX4_serves 4 = .ok (.getfield 81, 3) := by decide +kernel
theorem dX4_serves_7 : decode cX4_serves 7 = .ok (.iload_n 1, 1) := by decide +kernel
theorem dX4_serves_8 : decode cX4_serves 8 = .ok (.iaload, 1) := by decide +kernel
theorem dX4_serves_9 : decode cX4_serves 9 = .ok (.aload_n 2, 1) := by decide +kernel
theorem dX4_serves_10 : decode cX4_serves 10 = .ok (.getfield 84, 3) := by decide +kernel
theorem dX4_serves_13 : decode cX4_serves 13 = .ok (.if_icmp .ne 16, 3) := by decide +kernel
theorem dX4_serves_16 : decode cX4_serves 16 = .ok (.aload_n 0, 1) := by decide +kernel
theorem dX4_serves_17 : decode cX4_serves 17 = .ok (.getfield 9, 3) := by decide +kernel
theorem dX4_serves_20 : decode cX4_serves 20 = .ok (.iload_n 1, 1) := by decide +kernel
theorem dX4_serves_21 : decode cX4_serves 21 = .ok (.iaload, 1) := by decide +kernel
theorem dX4_serves_22 : decode cX4_serves 22 = .ok (.ifCond .le 7, 3) := by decide +kernel
theorem dX4_serves_25 : decode cX4_serves 25 = .ok (.iconst 1, 1) := by decide +kernel
theorem dX4_serves_26 : decode cX4_serves 26 = .ok (.goto 4, 3) := by decide +kernel
theorem dX4_serves_29 : decode cX4_serves 29 = .ok (.iconst 0, 1) := by decide +kernel
theorem dX4_serves_30 : decode cX4_serves 30 = .ok (.ireturn, 1) := by decide +kernel
set_option maxRecDepth 20000 in
theorem ggX4_endingAt_X4_serves : GoodIn wsX4_endingAt wsX4_serves := goodIn_r _ [9, 1, 10, 11, 12, 13, 14, 15, 16, 17, 18, 19, 20, 21, 22, 23, 24, 25, 26, 27, 28, 29, 30, 31, 32] (by decide +kernel) (by decide +kernel)
set_option maxRecDepth 20000 in
theorem gX4_endingAt_X4_serves : GoodIn wsX4_endingAt (wsV RX4 89 RX4 yX4_serves wsX4_serves) := goodIn_app (goodIn_of _ (by decide +kernel)) ggX4_endingAt_X4_serves
theorem dX4_endingAt_0 : decode cX4_endingAt 0 = .ok (.aload_n 0, 1) := by decide +kernel
theorem dX4_endingAt_1 : decode cX4_endingAt 1 = .ok (.getfield 15, 3) := by decide +kernel
theorem dX4_endingAt_4 : decode cX4_endingAt 4 = .ok (.getfield 86, 3) := by decide +kernel
theorem dX4_endingAt_7 : decode cX4_endingAt 7 = .ok (.iconst 1, 1) := by decide +kernel
theorem dX4_endingAt_8 : decode cX4_endingAt 8 = .ok (.isub, 1) := by decide +kernel
theorem dX4_endingAt_9 : decode cX4_endingAt 9 = .ok (.istore_n 3, 1) := by decide +kernel
theorem dX4_endingAt_10 : decode cX4_endingAt 10 = .ok (.iload_n 3, 1) := by decide +kernel
theorem dX4_endingAt_11 : decode cX4_endingAt 11 = .ok (.ifCond .lt 38, 3) := by decide +kernel
theorem dX4_endingAt_14 : decode cX4_endingAt 14 = .ok (.aload_n 0, 1) := by decide +kernel
theorem dX4_endingAt_15 : decode cX4_endingAt 15 = .ok (.iload_n 3, 1) := by decide +kernel
theorem dX4_endingAt_16 : decode cX4_endingAt 16 = .ok (.aload_n 2, 1) := by decide +kernel
theorem dX4_endingAt_17 : decode cX4_endingAt 17 = .ok (.invokevirtual 89, 3) := by decide +kernel
theorem dX4_endingAt_20 : decode cX4_endingAt 20 = .ok (.ifCond .eq 23, 3) := by decide +kernel
theorem dX4_endingAt_23 : decode cX4_endingAt 23 = .ok (.iload_n 1, 1) := by decide +kernel
theorem dX4_endingAt_24 : decode cX4_endingAt 24 = .ok (.aload_n 0, 1) := by decide +kernel
theorem dX4_endingAt_25 : decode cX4_endingAt 25 = .ok (.getfield 15, 3) := by decide +kernel
theorem dX4_endingAt_28 : decode cX4_endingAt 28 = .ok (.getfield 55, 3) := by decide +kernel
theorem dX4_endingAt_31 : decode cX4_endingAt 31 = .ok (.iload_n 3, 1) := by decide +kernel
theorem dX4_endingAt_32 : decode cX4_endingAt 32 = .ok (.iaload, 1) := by decide +kernel
theorem dX4_endingAt_33 : decode cX4_endingAt 33 = .ok (.iadd, 1) := by decide +kernel
theorem dX4_endingAt_34 : decode cX4_endingAt 34 = .ok (.aload_n 2, 1) := by decide +kernel
theorem dX4_endingAt_35 : decode cX4_endingAt 35 = .ok (.getfield 58, 3) := by decide +kernel
theorem dX4_endingAt_38 : decode cX4_endingAt 38 = .ok (.if_icmp .lt 5, 3) := by decide +kernel
theorem dX4_endingAt_41 : decode cX4_endingAt 41 = .ok (.iload_n 3, 1) := by decide +kernel
theorem dX4_endingAt_42 : decode cX4_endingAt 42 = .ok (.ireturn, 1) := by decide +kernel
theorem dX4_endingAt_43 : decode cX4_endingAt 43 = .ok (.iinc 3 (-1), 3) := by decide +kernel
theorem dX4_endingAt_46 : decode cX4_endingAt 46 = .ok (.goto (-36), 3) := by decide +kernel
theorem dX4_endingAt_49 : decode cX4_endingAt 49 = .ok (.bipush (-4), 2) := by decide +kernel
theorem dX4_endingAt_51 : decode cX4_endingAt 51 = .ok (.ireturn, 1) := by decide +kernel
set_option maxRecDepth 20000 in
theorem ggX4_brokenAt_X4_serves : GoodIn wsX4_brokenAt wsX4_serves := goodIn_r _ [9, 1, 10, 11, 12, 31, 32, 33, 34, 35, 36, 37, 38, 39, 40, 41, 42, 43, 44, 45, 46, 47, 48, 49, 50] (by decide +kernel) (by decide +kernel)
set_option maxRecDepth 20000 in
theorem gX4_brokenAt_X4_serves : GoodIn wsX4_brokenAt (wsV RX4 89 RX4 yX4_serves wsX4_serves) := goodIn_app (goodIn_of _ (by decide +kernel)) ggX4_brokenAt_X4_serves
set_option maxRecDepth 20000 in
theorem ggX4_brokenAt_X3_isBrokenAt : GoodIn wsX4_brokenAt wsX3_isBrokenAt := goodIn_r _ [17, 18, 19, 20, 21, 22, 23, 24, 25, 16, 26, 27, 28, 29, 30, 42, 43, 44, 45, 46, 47, 48, 49, 50] (by decide +kernel) (by decide +kernel)
set_option maxRecDepth 20000 in
theorem gX4_brokenAt_X3_isBrokenAt : GoodIn wsX4_brokenAt (wsV RX4 96 RX3 yX3_isBrokenAt wsX3_isBrokenAt) := goodIn_app (goodIn_of _ (by decide +kernel)) ggX4_brokenAt_X3_isBrokenAt
theorem dX4_brokenAt_0 : decode cX4_brokenAt 0 = .ok (.iconst 0, 1) := by decide +kernel
theorem dX4_brokenAt_1 : decode cX4_brokenAt 1 = .ok (.istore 4, 2) := by decide +kernel
theorem dX4_brokenAt_3 : decode cX4_brokenAt 3 = .ok (.iload 4, 2) := by decide +kernel
theorem dX4_brokenAt_5 : decode cX4_brokenAt 5 = .ok (.aload_n 0, 1) := by decide +kernel
theorem dX4_brokenAt_6 : decode cX4_brokenAt 6 = .ok (.getfield 15, 3) := by decide +kernel
theorem dX4_brokenAt_9 : decode cX4_brokenAt 9 = .ok (.getfield 86, 3) := by decide +kernel
theorem dX4_brokenAt_12 : decode cX4_brokenAt 12 = .ok (.if_icmp .ge 48, 3) := by decide +kernel
theorem dX4_brokenAt_15 : decode cX4_brokenAt 15 = .ok (.aload_n 0, 1) := by decide +kernel
theorem dX4_brokenAt_16 : decode cX4_brokenAt 16 = .ok (.iload 4, 2) := by decide +kernel
theorem dX4_brokenAt_18 : decode cX4_brokenAt 18 = .ok (.aload_n 2, 1) := by decide +kernel
theorem dX4_brokenAt_19 : decode cX4_brokenAt 19 = .ok (.invokevirtual 89, 3) := by decide +kernel
theorem dX4_brokenAt_22 : decode cX4_brokenAt 22 = .ok (.ifCond .eq 32, 3) := by decide +kernel
theorem dX4_brokenAt_25 : decode cX4_brokenAt 25 = .ok (.aload_n 3, 1) := by decide +kernel
theorem dX4_brokenAt_26 : decode cX4_brokenAt 26 = .ok (.iload_n 1, 1) := by decide +kernel
theorem dX4_brokenAt_27 : decode cX4_brokenAt 27 = .ok (.aload_n 0, 1) := by decide +kernel
theorem dX4_brokenAt_28 : decode cX4_brokenAt 28 = .ok (.getfield 15, 3) := by decide +kernel
theorem dX4_brokenAt_31 : decode cX4_brokenAt 31 = .ok (.getfield 55, 3) := by decide +kernel
theorem dX4_brokenAt_34 : decode cX4_brokenAt 34 = .ok (.iload 4, 2) := by decide +kernel
theorem dX4_brokenAt_36 : decode cX4_brokenAt 36 = .ok (.iaload, 1) := by decide +kernel
theorem dX4_brokenAt_37 : decode cX4_brokenAt 37 = .ok (.iadd, 1) := by decide +kernel
theorem dX4_brokenAt_38 : decode cX4_brokenAt 38 = .ok (.aload_n 0, 1) := by decide +kernel
theorem dX4_brokenAt_39 : decode cX4_brokenAt 39 = .ok (.getfield 15, 3) := by decide +kernel
theorem dX4_brokenAt_42 : decode cX4_brokenAt 42 = .ok (.getfield 93, 3) := by decide +kernel
theorem dX4_brokenAt_45 : decode cX4_brokenAt 45 = .ok (.invokevirtual 96, 3) := by decide +kernel
theorem dX4_brokenAt_48 : decode cX4_brokenAt 48 = .ok (.ifCond .eq 6, 3) := by decide +kernel
theorem dX4_brokenAt_51 : decode cX4_brokenAt 51 = .ok (.iload 4, 2) := by decide +kernel
theorem dX4_brokenAt_53 : decode cX4_brokenAt 53 = .ok (.ireturn, 1) := by decide +kernel
theorem dX4_brokenAt_54 : decode cX4_brokenAt 54 = .ok (.iinc 4 1, 3) := by decide +kernel
theorem dX4_brokenAt_57 : decode cX4_brokenAt 57 = .ok (.goto (-54), 3) := by decide +kernel
theorem dX4_brokenAt_60 : decode cX4_brokenAt 60 = .ok (.bipush (-4), 2) := by decide +kernel
theorem dX4_brokenAt_62 : decode cX4_brokenAt 62 = .ok (.ireturn, 1) := by decide +kernel
set_option maxRecDepth 20000 in
theorem ggX4_broadestFor_X4_serves : GoodIn wsX4_broadestFor wsX4_serves := goodIn_r _ [7, 1, 8, 9, 10, 11, 12, 13, 14, 15, 16, 17, 18, 19, 20, 21, 22, 23, 24, 25, 26, 27, 28, 29, 30] (by decide +kernel) (by decide +kernel)
set_option maxRecDepth 20000 in
theorem gX4_broadestFor_X4_serves : GoodIn wsX4_broadestFor (wsV RX4 89 RX4 yX4_serves wsX4_serves) := goodIn_app (goodIn_of _ (by decide +kernel)) ggX4_broadestFor_X4_serves
theorem dX4_broadestFor_0 : decode cX4_broadestFor 0 = .ok (.iconst 0, 1) := by decide +kernel
theorem dX4_broadestFor_1 : decode cX4_broadestFor 1 = .ok (.istore_n 2, 1) := by decide +kernel
theorem dX4_broadestFor_2 : decode cX4_broadestFor 2 = .ok (.iload_n 2, 1) := by decide +kernel
theorem dX4_broadestFor_3 : decode cX4_broadestFor 3 = .ok (.aload_n 0, 1) := by decide +kernel
theorem dX4_broadestFor_4 : decode cX4_broadestFor 4 = .ok (.getfield 15, 3) := by decide +kernel
theorem dX4_broadestFor_7 : decode cX4_broadestFor 7 = .ok (.getfield 86, 3) := by decide +kernel
theorem dX4_broadestFor_10 : decode cX4_broadestFor 10 = .ok (.if_icmp .ge 20, 3) := by decide +kernel
theorem dX4_broadestFor_13 : decode cX4_broadestFor 13 = .ok (.aload_n 0, 1) := by decide +kernel
theorem dX4_broadestFor_14 : decode cX4_broadestFor 14 = .ok (.iload_n 2, 1) := by decide +kernel
theorem dX4_broadestFor_15 : decode cX4_broadestFor 15 = .ok (.aload_n 1, 1) := by decide +kernel
theorem dX4_broadestFor_16 : decode cX4_broadestFor 16 = .ok (.invokevirtual 89, 3) := by decide +kernel
theorem dX4_broadestFor_19 : decode cX4_broadestFor 19 = .ok (.ifCond .eq 5, 3) := by decide +kernel
theorem dX4_broadestFor_22 : decode cX4_broadestFor 22 = .ok (.iload_n 2, 1) := by decide +kernel
theorem dX4_broadestFor_23 : decode cX4_broadestFor 23 = .ok (.ireturn, 1) := by decide +kernel
theorem dX4_broadestFor_24 : decode cX4_broadestFor 24 = .ok (.iinc 2 1, 3) := by decide +kernel
theorem dX4_broadestFor_27 : decode cX4_broadestFor 27 = .ok (.goto (-25), 3) := by decide +kernel
theorem dX4_broadestFor_30 : decode cX4_broadestFor 30 = .ok (.bipush (-4), 2) := by decide +kernel
theorem dX4_broadestFor_32 : decode cX4_broadestFor 32 = .ok (.ireturn, 1) := by decide +kernel
set_option maxRecDepth 20000 in
theorem ggX4_cutAt_X3_isBrokenAt : GoodIn wsX4_cutAt wsX3_isBrokenAt := goodIn_r _ [7, 8, 9, 10, 11, 12, 13, 14, 15, 6, 16, 17, 18, 19, 20, 32, 33, 34, 35, 36, 37, 38, 39, 40] (by decide +kernel) (by decide +kernel)
set_option maxRecDepth 20000 in
theorem gX4_cutAt_X3_isBrokenAt : GoodIn wsX4_cutAt (wsV RX4 96 RX3 yX3_isBrokenAt wsX3_isBrokenAt) := goodIn_app (goodIn_of _ (by decide +kernel)) ggX4_cutAt_X3_isBrokenAt
theorem dX4_cutAt_0 : decode cX4_cutAt 0 = .ok (.iload_n 2, 1) := by decide +kernel
theorem dX4_cutAt_1 : decode cX4_cutAt 1 = .ok (.iconst 1, 1) := by decide +kernel
theorem dX4_cutAt_2 : decode cX4_cutAt 2 = .ok (.isub, 1) := by decide +kernel
theorem dX4_cutAt_3 : decode cX4_cutAt 3 = .ok (.istore 4, 2) := by decide +kernel
theorem dX4_cutAt_5 : decode cX4_cutAt 5 = .ok (.iload 4, 2) := by decide +kernel
theorem dX4_cutAt_7 : decode cX4_cutAt 7 = .ok (.iconst 1, 1) := by decide +kernel
theorem dX4_cutAt_8 : decode cX4_cutAt 8 = .ok (.if_icmp .lt 30, 3) := by decide +kernel
theorem dX4_cutAt_11 : decode cX4_cutAt 11 = .ok (.aload_n 3, 1) := by decide +kernel
theorem dX4_cutAt_12 : decode cX4_cutAt 12 = .ok (.iload_n 1, 1) := by decide +kernel
theorem dX4_cutAt_13 : decode cX4_cutAt 13 = .ok (.iload 4, 2) := by decide +kernel
theorem dX4_cutAt_15 : decode cX4_cutAt 15 = .ok (.iadd, 1) := by decide +kernel
theorem dX4_cutAt_16 : decode cX4_cutAt 16 = .ok (.aload_n 0, 1) := by decide +kernel
theorem dX4_cutAt_17 : decode cX4_cutAt 17 = .ok (.getfield 15, 3) := by decide +kernel
theorem dX4_cutAt_20 : decode cX4_cutAt 20 = .ok (.getfield 93, 3) := by decide +kernel
theorem dX4_cutAt_23 : decode cX4_cutAt 23 = .ok (.invokevirtual 96, 3) := by decide +kernel
theorem dX4_cutAt_26 : decode cX4_cutAt 26 = .ok (.ifCond .eq 6, 3) := by decide +kernel
theorem dX4_cutAt_29 : decode cX4_cutAt 29 = .ok (.iload 4, 2) := by decide +kernel
theorem dX4_cutAt_31 : decode cX4_cutAt 31 = .ok (.ireturn, 1) := by decide +kernel
theorem dX4_cutAt_32 : decode cX4_cutAt 32 = .ok (.iinc 4 (-1), 3) := by decide +kernel
theorem dX4_cutAt_35 : decode cX4_cutAt 35 = .ok (.goto (-30), 3) := by decide +kernel
theorem dX4_cutAt_38 : decode cX4_cutAt 38 = .ok (.bipush (-4), 2) := by decide +kernel
theorem dX4_cutAt_40 : decode cX4_cutAt 40 = .ok (.ireturn, 1) := by decide +kernel
theorem dX5_init_0 : decode cX5_init 0 = .ok (.aload_n 0, 1) := by decide +kernel
theorem dX5_init_1 : decode cX5_init 1 = .ok (.invokespecial 3, 3) := by decide +kernel
theorem dX5_init_4 : decode cX5_init 4 = .ok (.aload_n 0, 1) := by decide +kernel
theorem dX5_init_5 : decode cX5_init 5 = .ok (.bipush 8, 2) := by decide +kernel
theorem dX5_init_7 : decode cX5_init 7 = .ok (.newarray .int, 2) := by decide +kernel
theorem dX5_init_9 : decode cX5_init 9 = .ok (.putfield 9, 3) := by decide +kernel
theorem dX5_init_12 : decode cX5_init 12 = .ok (.aload_n 0, 1) := by decide +kernel
theorem dX5_init_13 : decode cX5_init 13 = .ok (.bipush 8, 2) := by decide +kernel
theorem dX5_init_15 : decode cX5_init 15 = .ok (.newarray .int, 2) := by decide +kernel
theorem dX5_init_17 : decode cX5_init 17 = .ok (.putfield 15, 3) := by decide +kernel
theorem dX5_init_20 : decode cX5_init 20 = .ok (.aload_n 0, 1) := by decide +kernel
theorem dX5_init_21 : decode cX5_init 21 = .ok (.bipush 8, 2) := by decide +kernel
theorem dX5_init_23 : decode cX5_init 23 = .ok (.newarray .int, 2) := by decide +kernel
theorem dX5_init_25 : decode cX5_init 25 = .ok (.putfield 18, 3) := by decide +kernel
theorem dX5_init_28 : decode cX5_init 28 = .ok (.return_, 1) := by decide +kernel
theorem dX5_clear_0 : decode cX5_clear 0 = .ok (.aload_n 0, 1) := by decide +kernel
theorem dX5_clear_1 : decode cX5_clear 1 = .ok (.iconst 0, 1) := by decide +kernel
theorem dX5_clear_2 : decode cX5_clear 2 = .ok (.putfield 21, 3) := by decide +kernel
theorem dX5_clear_5 : decode cX5_clear 5 = .ok (.aload_n 0, 1) := by decide +kernel
theorem dX5_clear_6 : decode cX5_clear 6 = .ok (.bipush 100, 2) := by decide +kernel
theorem dX5_clear_8 : decode cX5_clear 8 = .ok (.putfield 25, 3) := by decide +kernel
theorem dX5_clear_11 : decode cX5_clear 11 = .ok (.aload_n 0, 1) := by decide +kernel
theorem dX5_clear_12 : decode cX5_clear 12 = .ok (.bipush 120, 2) := by decide +kernel
theorem dX5_clear_14 : decode cX5_clear 14 = .ok (.putfield 28, 3) := by decide +kernel
theorem dX5_clear_17 : decode cX5_clear 17 = .ok (.aload_n 0, 1) := by decide +kernel
theorem dX5_clear_18 : decode cX5_clear 18 = .ok (.bipush 6, 2) := by decide +kernel
theorem dX5_clear_20 : decode cX5_clear 20 = .ok (.putfield 31, 3) := by decide +kernel
theorem dX5_clear_23 : decode cX5_clear 23 = .ok (.aload_n 0, 1) := by decide +kernel
theorem dX5_clear_24 : decode cX5_clear 24 = .ok (.iconst 4, 1) := by decide +kernel
theorem dX5_clear_25 : decode cX5_clear 25 = .ok (.putfield 34, 3) := by decide +kernel
theorem dX5_clear_28 : decode cX5_clear 28 = .ok (.aload_n 0, 1) := by decide +kernel
theorem dX5_clear_29 : decode cX5_clear 29 = .ok (.iconst 0, 1) := by decide +kernel
theorem dX5_clear_30 : decode cX5_clear 30 = .ok (.putfield 37, 3) := by decide +kernel
theorem dX5_clear_33 : decode cX5_clear 33 = .ok (.return_, 1) := by decide +kernel
theorem dX5_copy_0 : decode cX5_copy 0 = .ok (.aload_n 1, 1) := by decide +kernel
theorem dX5_copy_1 : decode cX5_copy 1 = .ok (.getfield 9, 3) := by decide +kernel
theorem dX5_copy_4 : decode cX5_copy 4 = .ok (.iconst 0, 1) := by decide +kernel
theorem dX5_copy_5 : decode cX5_copy 5 = .ok (.aload_n 0, 1) := by decide +kernel
theorem dX5_copy_6 : decode cX5_copy 6 = .ok (.getfield 9, 3) := by decide +kernel
theorem dX5_copy_9 : decode cX5_copy 9 = .ok (.iconst 0, 1) := by decide +kernel
theorem dX5_copy_10 : decode cX5_copy 10 = .ok (.bipush 8, 2) := by decide +kernel
theorem dX5_copy_12 : decode cX5_copy 12 = .ok (.invokestatic 40, 3) := by decide +kernel
theorem dX5_copy_15 : decode cX5_copy 15 = .ok (.aload_n 1, 1) := by decide +kernel
theorem dX5_copy_16 : decode cX5_copy 16 = .ok (.getfield 15, 3) := by decide +kernel
theorem dX5_copy_19 : decode cX5_copy 19 = .ok (.iconst 0, 1) := by decide +kernel
theorem dX5_copy_20 : decode cX5_copy 20 = .ok (.aload_n 0, 1) := by decide +kernel
theorem dX5_copy_21 : decode cX5_copy 21 = .ok (.getfield 15, 3) := by decide +kernel
theorem dX5_copy_24 : decode cX5_copy 24 = .ok (.iconst 0, 1) := by decide +kernel
theorem dX5_copy_25 : decode cX5_copy 25 = .ok (.bipush 8, 2) := by decide +kernel
theorem dX5_copy_27 : decode cX5_copy 27 = .ok (.invokestatic 40, 3) := by decide +kernel
theorem dX5_copy_30 : decode cX5_copy 30 = .ok (.aload_n 1, 1) := by decide +kernel
theorem dX5_copy_31 : decode cX5_copy 31 = .ok (.getfield 18, 3) := by decide +kernel
theorem dX5_copy_34 : decode cX5_copy 34 = .ok (.iconst 0, 1) := by decide +kernel
theorem dX5_copy_35 : decode cX5_copy 35 = .ok (.aload_n 0, 1) := by decide +kernel
theorem dX5_copy_36 : decode cX5_copy 36 = .ok (.getfield 18, 3) := by decide +kernel
theorem dX5_copy_39 : decode cX5_copy 39 = .ok (.iconst 0, 1) := by decide +kernel
theorem dX5_copy_40 : decode cX5_copy 40 = .ok (.bipush 8, 2) := by decide +kernel
theorem dX5_copy_42 : decode cX5_copy 42 = .ok (.invokestatic 40, 3) := by decide +kernel
theorem dX5_copy_45 : decode cX5_copy 45 = .ok (.aload_n 0, 1) := by decide +kernel
theorem dX5_copy_46 : decode cX5_copy 46 = .ok (.aload_n 1, 1) := by decide +kernel
theorem dX5_copy_47 : decode cX5_copy 47 = .ok (.getfield 21, 3) := by decide +kernel
theorem dX5_copy_50 : decode cX5_copy 50 = .ok (.putfield 21, 3) := by decide +kernel
theorem dX5_copy_53 : decode cX5_copy 53 = .ok (.aload_n 0, 1) := by decide +kernel
theorem dX5_copy_54 : decode cX5_copy 54 = .ok (.aload_n 1, 1) := by decide +kernel
theorem dX5_copy_55 : decode cX5_copy 55 = .ok (.getfield 25, 3) := by decide +kernel
theorem dX5_copy_58 : decode cX5_copy 58 = .ok (.putfield 25, 3) := by decide +kernel
theorem dX5_copy_61 : decode cX5_copy 61 = .ok (.aload_n 0, 1) := by decide +kernel
theorem dX5_copy_62 : decode cX5_copy 62 = .ok (.aload_n 1, 1) := by decide +kernel
theorem dX5_copy_63 : decode cX5_copy 63 = .ok (.getfield 28, 3) := by decide +kernel
theorem dX5_copy_66 : decode cX5_copy 66 = .ok (.putfield 28, 3) := by decide +kernel
theorem dX5_copy_69 : decode cX5_copy 69 = .ok (.aload_n 0, 1) := by decide +kernel
theorem dX5_copy_70 : decode cX5_copy 70 = .ok (.aload_n 1, 1) := by decide +kernel
theorem dX5_copy_71 : decode cX5_copy 71 = .ok (.getfield 31, 3) := by decide +kernel
theorem dX5_copy_74 : decode cX5_copy 74 = .ok (.putfield 31, 3) := by decide +kernel
theorem dX5_copy_77 : decode cX5_copy 77 = .ok (.aload_n 0, 1) := by decide +kernel
theorem dX5_copy_78 : decode cX5_copy 78 = .ok (.aload_n 1, 1) := by decide +kernel
theorem dX5_copy_79 : decode cX5_copy 79 = .ok (.getfield 34, 3) := by decide +kernel
theorem dX5_copy_82 : decode cX5_copy 82 = .ok (.putfield 34, 3) := by decide +kernel
theorem dX5_copy_85 : decode cX5_copy 85 = .ok (.aload_n 0, 1) := by decide +kernel
theorem dX5_copy_86 : decode cX5_copy 86 = .ok (.aload_n 1, 1) := by decide +kernel
theorem dX5_copy_87 : decode cX5_copy 87 = .ok (.getfield 37, 3) := by decide +kernel
theorem dX5_copy_90 : decode cX5_copy 90 = .ok (.putfield 37, 3) := by decide +kernel
theorem dX5_copy_93 : decode cX5_copy 93 = .ok (.return_, 1) := by decide +kernel
set_option maxRecDepth 20000 in
theorem ggX5_take_X5_takeSlates : GoodIn wsX5_take wsX5_takeSlates := goodIn_r _ [5, 6, 7, 8, 9, 10, 11, 12, 13, 14, 15, 4, 16, 17, 18, 19, 20, 38, 39, 40, 41, 42, 43, 44, 45, 46] (by decide +kernel) (by decide +kernel)
set_option maxRecDepth 20000 in
theorem gX5_take_X5_takeSlates : GoodIn wsX5_take (wsV RX5 46 RX5 yX5_takeSlates wsX5_takeSlates) := goodIn_app (goodIn_of _ (by decide +kernel)) ggX5_take_X5_takeSlates
set_option maxRecDepth 20000 in
theorem ggX5_take_X5_takeRoof : GoodIn wsX5_take wsX5_takeRoof := goodIn_r _ [24, 25, 26, 10, 11, 12, 38, 39, 40, 41, 42, 43, 44, 45, 46] (by decide +kernel) (by decide +kernel)
set_option maxRecDepth 20000 in
theorem gX5_take_X5_takeRoof : GoodIn wsX5_take (wsV RX5 50 RX5 yX5_takeRoof wsX5_takeRoof) := goodIn_app (goodIn_of _ (by decide +kernel)) ggX5_take_X5_takeRoof
set_option maxRecDepth 20000 in
theorem ggX5_take_X5_takeLap : GoodIn wsX5_take wsX5_takeLap := goodIn_r _ [30, 31, 32, 10, 11, 12, 38, 39, 40, 41, 42, 43, 44, 45, 46] (by decide +kernel) (by decide +kernel)
set_option maxRecDepth 20000 in
theorem gX5_take_X5_takeLap : GoodIn wsX5_take (wsV RX5 54 RX5 yX5_takeLap wsX5_takeLap) := goodIn_app (goodIn_of _ (by decide +kernel)) ggX5_take_X5_takeLap
set_option maxRecDepth 20000 in
theorem ggX5_take_X5_takeHip : GoodIn wsX5_take wsX5_takeHip := goodIn_r _ [36, 37, 10, 11, 12, 38, 39, 40, 41, 42, 43, 44, 45, 46] (by decide +kernel) (by decide +kernel)
set_option maxRecDepth 20000 in
theorem gX5_take_X5_takeHip : GoodIn wsX5_take (wsV RX5 57 RX5 yX5_takeHip wsX5_takeHip) := goodIn_app (goodIn_of _ (by decide +kernel)) ggX5_take_X5_takeHip
theorem dX5_take_0 : decode cX5_take 0 = .ok (.iload_n 1, 1) := by decide +kernel
theorem dX5_take_1 : decode cX5_take 1 = .ok (.bipush 104, 2) := by decide +kernel
theorem dX5_take_3 : decode cX5_take 3 = .ok (.if_icmp .ne 12, 3) := by decide +kernel
theorem dX5_take_6 : decode cX5_take 6 = .ok (.aload_n 0, 1) := by decide +kernel
theorem dX5_take_7 : decode cX5_take 7 = .ok (.iload_n 2, 1) := by decide +kernel
theorem dX5_take_8 : decode cX5_take 8 = .ok (.iload_n 3, 1) := by decide +kernel
theorem dX5_take_9 : decode cX5_take 9 = .ok (.iload 4, 2) := by decide +kernel
theorem dX5_take_11 : decode cX5_take 11 = .ok (.invokevirtual 46, 3) := by decide +kernel
theorem dX5_take_14 : decode cX5_take 14 = .ok (.ireturn, 1) := by decide +kernel
theorem dX5_take_15 : decode cX5_take 15 = .ok (.iload_n 1, 1) := by decide +kernel
theorem dX5_take_16 : decode cX5_take 16 = .ok (.bipush 114, 2) := by decide +kernel
theorem dX5_take_18 : decode cX5_take 18 = .ok (.if_icmp .ne 10, 3) := by decide +kernel
theorem dX5_take_21 : decode cX5_take 21 = .ok (.aload_n 0, 1) := by decide +kernel
theorem dX5_take_22 : decode cX5_take 22 = .ok (.iload_n 2, 1) := by decide +kernel
theorem dX5_take_23 : decode cX5_take 23 = .ok (.iload_n 3, 1) := by decide +kernel
theorem dX5_take_24 : decode cX5_take 24 = .ok (.invokevirtual 50, 3) := by decide +kernel
theorem dX5_take_27 : decode cX5_take 27 = .ok (.ireturn, 1) := by decide +kernel
theorem dX5_take_28 : decode cX5_take 28 = .ok (.iload_n 1, 1) := by decide +kernel
theorem dX5_take_29 : decode cX5_take 29 = .ok (.bipush 112, 2) := by decide +kernel
theorem dX5_take_31 : decode cX5_take 31 = .ok (.if_icmp .ne 10, 3) := by decide +kernel
theorem dX5_take_34 : decode cX5_take 34 = .ok (.aload_n 0, 1) := by decide +kernel
theorem dX5_take_35 : decode cX5_take 35 = .ok (.iload_n 2, 1) := by decide +kernel
theorem dX5_take_36 : decode cX5_take 36 = .ok (.iload_n 3, 1) := by decide +kernel
theorem dX5_take_37 : decode cX5_take 37 = .ok (.invokevirtual 54, 3) := by decide +kernel
theorem dX5_take_40 : decode cX5_take 40 = .ok (.ireturn, 1) := by decide +kernel
theorem dX5_take_41 : decode cX5_take 41 = .ok (.iload_n 1, 1) := by decide +kernel
theorem dX5_take_42 : decode cX5_take 42 = .ok (.bipush 105, 2) := by decide +kernel
theorem dX5_take_44 : decode cX5_take 44 = .ok (.if_icmp .ne 15, 3) := by decide +kernel
theorem dX5_take_47 : decode cX5_take 47 = .ok (.aload_n 0, 1) := by decide +kernel
theorem dX5_take_48 : decode cX5_take 48 = .ok (.iload_n 2, 1) := by decide +kernel
theorem dX5_take_49 : decode cX5_take 49 = .ok (.invokevirtual 57, 3) := by decide +kernel
theorem dX5_take_52 : decode cX5_take 52 = .ok (.ifCond .eq 7, 3) := by decide +kernel
theorem dX5_take_55 : decode cX5_take 55 = .ok (.iconst 1, 1) := by decide +kernel
theorem dX5_take_56 : decode cX5_take 56 = .ok (.goto 4, 3) := by decide +kernel
theorem dX5_take_59 : decode cX5_take 59 = .ok (.iconst 0, 1) := by decide +kernel
theorem dX5_take_60 : decode cX5_take 60 = .ok (.ireturn, 1) := by decide +kernel
set_option maxRecDepth 20000 in
theorem ggX5_takeRoof_X8_isWithin : GoodIn wsX5_takeRoof wsX8_isWithin := goodIn_r _ [5] (by decide +kernel) (by decide +kernel)
set_option maxRecDepth 20000 in
theorem gX5_takeRoof_X8_isWithin_n61 : GoodIn wsX5_takeRoof (wsX8_isWithin) := ggX5_takeRoof_X8_isWithin
theorem dX5_takeRoof_0 : decode cX5_takeRoof 0 = .ok (.aload_n 0, 1) := by decide +kernel
theorem dX5_takeRoof_1 : decode cX5_takeRoof 1 = .ok (.iload_n 1, 1) := by decide +kernel
theorem dX5_takeRoof_2 : decode cX5_takeRoof 2 = .ok (.putfield 25, 3) := by decide +kernel
theorem dX5_takeRoof_5 : decode cX5_takeRoof 5 = .ok (.aload_n 0, 1) := by decide +kernel
theorem dX5_takeRoof_6 : decode cX5_takeRoof 6 = .ok (.iload_n 2, 1) := by decide +kernel
theorem dX5_takeRoof_7 : decode cX5_takeRoof 7 = .ok (.putfield 28, 3) := by decide +kernel
theorem dX5_takeRoof_10 : decode cX5_takeRoof 10 = .ok (.aload_n 0, 1) := by decide +kernel
theorem dX5_takeRoof_11 : decode cX5_takeRoof 11 = .ok (.getfield 25, 3) := by decide +kernel
theorem dX5_takeRoof_14 : decode cX5_takeRoof 14 = .ok (.bipush 20, 2) := by decide +kernel
theorem dX5_takeRoof_16 : decode cX5_takeRoof 16 = .ok (.sipush 400, 3) := by decide +kernel
theorem dX5_takeRoof_19 : decode cX5_takeRoof 19 = .ok (.invokestatic 61, 3) := by decide +kernel
theorem dX5_takeRoof_22 : decode cX5_takeRoof 22 = .ok (.ifCond .eq 22, 3) := by decide +kernel
theorem dX5_takeRoof_25 : decode cX5_takeRoof 25 = .ok (.aload_n 0, 1) := by decide +kernel
theorem dX5_takeRoof_26 : decode cX5_takeRoof 26 = .ok (.getfield 28, 3) := by decide +kernel
theorem dX5_takeRoof_29 : decode cX5_takeRoof 29 = .ok (.bipush 40, 2) := by decide +kernel
theorem dX5_takeRoof_31 : decode cX5_takeRoof 31 = .ok (.sipush 240, 3) := by decide +kernel
theorem dX5_takeRoof_34 : decode cX5_takeRoof 34 = .ok (.invokestatic 61, 3) := by decide +kernel
theorem dX5_takeRoof_37 : decode cX5_takeRoof 37 = .ok (.ifCond .eq 7, 3) := by decide +kernel
theorem dX5_takeRoof_40 : decode cX5_takeRoof 40 = .ok (.iconst 1, 1) := by decide +kernel
theorem dX5_takeRoof_41 : decode cX5_takeRoof 41 = .ok (.goto 4, 3) := by decide +kernel
theorem dX5_takeRoof_44 : decode cX5_takeRoof 44 = .ok (.iconst 0, 1) := by decide +kernel
theorem dX5_takeRoof_45 : decode cX5_takeRoof 45 = .ok (.ireturn, 1) := by decide +kernel
set_option maxRecDepth 20000 in
theorem ggX5_takeLap_X8_isWithin : GoodIn wsX5_takeLap wsX8_isWithin := goodIn_r _ [5] (by decide +kernel) (by decide +kernel)
set_option maxRecDepth 20000 in
theorem gX5_takeLap_X8_isWithin_n61 : GoodIn wsX5_takeLap (wsX8_isWithin) := ggX5_takeLap_X8_isWithin
theorem dX5_takeLap_0 : decode cX5_takeLap 0 = .ok (.aload_n 0, 1) := by decide +kernel
theorem dX5_takeLap_1 : decode cX5_takeLap 1 = .ok (.iload_n 1, 1) := by decide +kernel
theorem dX5_takeLap_2 : decode cX5_takeLap 2 = .ok (.putfield 31, 3) := by decide +kernel
theorem dX5_takeLap_5 : decode cX5_takeLap 5 = .ok (.aload_n 0, 1) := by decide +kernel
theorem dX5_takeLap_6 : decode cX5_takeLap 6 = .ok (.iload_n 2, 1) := by decide +kernel
theorem dX5_takeLap_7 : decode cX5_takeLap 7 = .ok (.putfield 34, 3) := by decide +kernel
theorem dX5_takeLap_10 : decode cX5_takeLap 10 = .ok (.aload_n 0, 1) := by decide +kernel
theorem dX5_takeLap_11 : decode cX5_takeLap 11 = .ok (.getfield 31, 3) := by decide +kernel
theorem dX5_takeLap_14 : decode cX5_takeLap 14 = .ok (.iconst 1, 1) := by decide +kernel
theorem dX5_takeLap_15 : decode cX5_takeLap 15 = .ok (.bipush 10, 2) := by decide +kernel
theorem dX5_takeLap_17 : decode cX5_takeLap 17 = .ok (.invokestatic 61, 3) := by decide +kernel
theorem dX5_takeLap_20 : decode cX5_takeLap 20 = .ok (.ifCond .eq 20, 3) := by decide +kernel
theorem dX5_takeLap_23 : decode cX5_takeLap 23 = .ok (.aload_n 0, 1) := by decide +kernel
theorem dX5_takeLap_24 : decode cX5_takeLap 24 = .ok (.getfield 34, 3) := by decide +kernel
theorem dX5_takeLap_27 : decode cX5_takeLap 27 = .ok (.iconst 1, 1) := by decide +kernel
theorem dX5_takeLap_28 : decode cX5_takeLap 28 = .ok (.bipush 9, 2) := by decide +kernel
theorem dX5_takeLap_30 : decode cX5_takeLap 30 = .ok (.invokestatic 61, 3) := by decide +kernel
theorem dX5_takeLap_33 : decode cX5_takeLap 33 = .ok (.ifCond .eq 7, 3) := by decide +kernel
theorem dX5_takeLap_36 : decode cX5_takeLap 36 = .ok (.iconst 1, 1) := by decide +kernel
theorem dX5_takeLap_37 : decode cX5_takeLap 37 = .ok (.goto 4, 3) := by decide +kernel
theorem dX5_takeLap_40 : decode cX5_takeLap 40 = .ok (.iconst 0, 1) := by decide +kernel
theorem dX5_takeLap_41 : decode cX5_takeLap 41 = .ok (.ireturn, 1) := by decide +kernel
set_option maxRecDepth 20000 in
theorem ggX5_takeHip_X8_isWithin : GoodIn wsX5_takeHip wsX8_isWithin := goodIn_r _ [4] (by decide +kernel) (by decide +kernel)
set_option maxRecDepth 20000 in
theorem gX5_takeHip_X8_isWithin_n61 : GoodIn wsX5_takeHip (wsX8_isWithin) := ggX5_takeHip_X8_isWithin
theorem dX5_takeHip_0 : decode cX5_takeHip 0 = .ok (.aload_n 0, 1) := by decide +kernel
theorem dX5_takeHip_1 : decode cX5_takeHip 1 = .ok (.iload_n 1, 1) := by decide +kernel
theorem dX5_takeHip_2 : decode cX5_takeHip 2 = .ok (.putfield 37, 3) := by decide +kernel
theorem dX5_takeHip_5 : decode cX5_takeHip 5 = .ok (.aload_n 0, 1) := by decide +kernel
theorem dX5_takeHip_6 : decode cX5_takeHip 6 = .ok (.getfield 37, 3) := by decide +kernel
theorem dX5_takeHip_9 : decode cX5_takeHip 9 = .ok (.iconst 0, 1) := by decide +kernel
theorem dX5_takeHip_10 : decode cX5_takeHip 10 = .ok (.bipush 9, 2) := by decide +kernel
theorem dX5_takeHip_12 : decode cX5_takeHip 12 = .ok (.invokestatic 61, 3) := by decide +kernel
theorem dX5_takeHip_15 : decode cX5_takeHip 15 = .ok (.ireturn, 1) := by decide +kernel
set_option maxRecDepth 20000 in
theorem ggX5_takeSlates_X8_isWithin : GoodIn wsX5_takeSlates wsX8_isWithin := goodIn_r _ [7] (by decide +kernel) (by decide +kernel)
set_option maxRecDepth 20000 in
theorem gX5_takeSlates_X8_isWithin_n61 : GoodIn wsX5_takeSlates (wsX8_isWithin) := ggX5_takeSlates_X8_isWithin
set_option maxRecDepth 20000 in
theorem ggX5_takeSlates_X5_placeFor : GoodIn wsX5_takeSlates wsX5_placeFor := goodIn_r _ [12, 1, 2, 3, 17, 18, 19, 20, 21, 22, 23, 24, 25] (by decide +kernel) (by decide +kernel)
set_option maxRecDepth 20000 in
theorem gX5_takeSlates_X5_placeFor : GoodIn wsX5_takeSlates (wsV RX5 64 RX5 yX5_placeFor wsX5_placeFor) := goodIn_app (goodIn_of _ (by decide +kernel)) ggX5_takeSlates_X5_placeFor
set_option maxRecDepth 20000 in
theorem ggX5_takeSlates_X5_insertHeap : GoodIn wsX5_takeSlates wsX5_insertHeap := goodIn_r _ [16, 1, 2, 3, 4, 17, 18, 19, 20, 21, 22, 23, 24, 25] (by decide +kernel) (by decide +kernel)
set_option maxRecDepth 20000 in
theorem gX5_takeSlates_X5_insertHeap : GoodIn wsX5_takeSlates (wsV RX5 68 RX5 yX5_insertHeap wsX5_insertHeap) := goodIn_app (goodIn_of _ (by decide +kernel)) ggX5_takeSlates_X5_insertHeap
theorem dX5_takeSlates_0 : decode cX5_takeSlates 0 = .ok (.iload_n 1, 1) := by decide +kernel
theorem dX5_takeSlates_1 : decode cX5_takeSlates 1 = .ok (.bipush 20, 2) := by decide +kernel
theorem dX5_takeSlates_3 : decode cX5_takeSlates 3 = .ok (.bipush 60, 2) := by decide +kernel
theorem dX5_takeSlates_5 : decode cX5_takeSlates 5 = .ok (.invokestatic 61, 3) := by decide +kernel
theorem dX5_takeSlates_8 : decode cX5_takeSlates 8 = .ok (.ifCond .eq 24, 3) := by decide +kernel
theorem dX5_takeSlates_11 : decode cX5_takeSlates 11 = .ok (.iload_n 2, 1) := by decide +kernel
theorem dX5_takeSlates_12 : decode cX5_takeSlates 12 = .ok (.bipush 10, 2) := by decide +kernel
theorem dX5_takeSlates_14 : decode cX5_takeSlates 14 = .ok (.bipush 60, 2) := by decide +kernel
theorem dX5_takeSlates_16 : decode cX5_takeSlates 16 = .ok (.invokestatic 61, 3) := by decide +kernel
theorem dX5_takeSlates_19 : decode cX5_takeSlates 19 = .ok (.ifCond .eq 13, 3) := by decide +kernel
theorem dX5_takeSlates_22 : decode cX5_takeSlates 22 = .ok (.iload_n 3, 1) := by decide +kernel
theorem dX5_takeSlates_23 : decode cX5_takeSlates 23 = .ok (.iconst 1, 1) := by decide +kernel
theorem dX5_takeSlates_24 : decode cX5_takeSlates 24 = .ok (.bipush 99, 2) := by decide +kernel
theorem dX5_takeSlates_26 : decode cX5_takeSlates 26 = .ok (.invokestatic 61, 3) := by decide +kernel
theorem dX5_takeSlates_29 : decode cX5_takeSlates 29 = .ok (.ifCond .ne 5, 3) := by decide +kernel
theorem dX5_takeSlates_32 : decode cX5_takeSlates 32 = .ok (.iconst 0, 1) := by decide +kernel
theorem dX5_takeSlates_33 : decode cX5_takeSlates 33 = .ok (.ireturn, 1) := by decide +kernel
theorem dX5_takeSlates_34 : decode cX5_takeSlates 34 = .ok (.aload_n 0, 1) := by decide +kernel
theorem dX5_takeSlates_35 : decode cX5_takeSlates 35 = .ok (.iload_n 1, 1) := by decide +kernel
theorem dX5_takeSlates_36 : decode cX5_takeSlates 36 = .ok (.iload_n 2, 1) := by decide +kernel
theorem dX5_takeSlates_37 : decode cX5_takeSlates 37 = .ok (.invokevirtual 64, 3) := by decide +kernel
theorem dX5_takeSlates_40 : decode cX5_takeSlates 40 = .ok (.istore 4, 2) := by decide +kernel
theorem dX5_takeSlates_42 : decode cX5_takeSlates 42 = .ok (.iload 4, 2) := by decide +kernel
theorem dX5_takeSlates_44 : decode cX5_takeSlates 44 = .ok (.aload_n 0, 1) := by decide +kernel
theorem dX5_takeSlates_45 : decode cX5_takeSlates 45 = .ok (.getfield 21, 3) := by decide +kernel
theorem dX5_takeSlates_48 : decode cX5_takeSlates 48 = .ok (.if_icmp .ge 55, 3) := by decide +kernel
theorem dX5_takeSlates_51 : decode cX5_takeSlates 51 = .ok (.aload_n 0, 1) := by decide +kernel
theorem dX5_takeSlates_52 : decode cX5_takeSlates 52 = .ok (.getfield 9, 3) := by decide +kernel
theorem dX5_takeSlates_55 : decode cX5_takeSlates 55 = .ok (.iload 4, 2) := by decide +kernel
theorem dX5_takeSlates_57 : decode cX5_takeSlates 57 = .ok (.iaload, 1) := by decide +kernel
theorem dX5_takeSlates_58 : decode cX5_takeSlates 58 = .ok (.iload_n 1, 1) := by decide +kernel
theorem dX5_takeSlates_59 : decode cX5_takeSlates 59 = .ok (.if_icmp .ne 44, 3) := by decide +kernel
theorem dX5_takeSlates_62 : decode cX5_takeSlates 62 = .ok (.aload_n 0, 1) := by decide +kernel
theorem dX5_takeSlates_63 : decode cX5_takeSlates 63 = .ok (.getfield 15, 3) := by decide +kernel
theorem dX5_takeSlates_66 : decode cX5_takeSlates 66 = .ok (.iload 4, 2) := by decide +kernel
theorem dX5_takeSlates_68 : decode cX5_takeSlates 68 = .ok (.iaload, 1) := by decide +kernel
theorem dX5_takeSlates_69 : decode cX5_takeSlates 69 = .ok (.iload_n 2, 1) := by decide +kernel
theorem dX5_takeSlates_70 : decode cX5_takeSlates 70 = .ok (.if_icmp .ne 33, 3) := by decide +kernel
theorem dX5_takeSlates_73 : decode cX5_takeSlates 73 = .ok (.aload_n 0, 1) := by decide +kernel
theorem dX5_takeSlates_74 : decode cX5_takeSlates 74 = .ok (.getfield 18, 3) := by decide +kernel
theorem dX5_takeSlates_77 : decode cX5_takeSlates 77 = .ok (.iload 4, 2) := by decide +kernel
theorem dX5_takeSlates_79 : decode cX5_takeSlates 79 = .ok (.dup2, 1) := by decide +kernel
theorem dX5_takeSlates_80 : decode cX5_takeSlates 80 = .ok (.iaload, 1) := by decide +kernel
theorem dX5_takeSlates_81 : decode cX5_takeSlates 81 = .ok (.iload_n 3, 1) := by decide +kernel
theorem dX5_takeSlates_82 : decode cX5_takeSlates 82 = .ok (.iadd, 1) := by decide +kernel
theorem dX5_takeSlates_83 : decode cX5_takeSlates 83 = .ok (.iastore, 1) := by decide +kernel
theorem dX5_takeSlates_84 : decode cX5_takeSlates 84 = .ok (.aload_n 0, 1) := by decide +kernel
theorem dX5_takeSlates_85 : decode cX5_takeSlates 85 = .ok (.getfield 18, 3) := by decide +kernel
theorem dX5_takeSlates_88 : decode cX5_takeSlates 88 = .ok (.iload 4, 2) := by decide +kernel
theorem dX5_takeSlates_90 : decode cX5_takeSlates 90 = .ok (.iaload, 1) := by decide +kernel
theorem dX5_takeSlates_91 : decode cX5_takeSlates 91 = .ok (.sipush 999, 3) := by decide +kernel
theorem dX5_takeSlates_94 : decode cX5_takeSlates 94 = .ok (.if_icmp .gt 7, 3) := by decide +kernel
theorem dX5_takeSlates_97 : decode cX5_takeSlates 97 = .ok (.iconst 1, 1) := by decide +kernel
theorem dX5_takeSlates_98 : decode cX5_takeSlates 98 = .ok (.goto 4, 3) := by decide +kernel
theorem dX5_takeSlates_101 : decode cX5_takeSlates 101 = .ok (.iconst 0, 1) := by decide +kernel
theorem dX5_takeSlates_102 : decode cX5_takeSlates 102 = .ok (.ireturn, 1) := by decide +kernel
theorem dX5_takeSlates_103 : decode cX5_takeSlates 103 = .ok (.aload_n 0, 1) := by decide +kernel
theorem dX5_takeSlates_104 : decode cX5_takeSlates 104 = .ok (.iload 4, 2) := by decide +kernel
theorem dX5_takeSlates_106 : decode cX5_takeSlates 106 = .ok (.iload_n 1, 1) := by decide +kernel
theorem dX5_takeSlates_107 : decode cX5_takeSlates 107 = .ok (.iload_n 2, 1) := by decide +kernel
theorem dX5_takeSlates_108 : decode cX5_takeSlates 108 = .ok (.iload_n 3, 1) := by decide +kernel
theorem dX5_takeSlates_109 : decode cX5_takeSlates 109 = .ok (.invokevirtual 68, 3) := by decide +kernel
theorem dX5_takeSlates_112 : decode cX5_takeSlates 112 = .ok (.ireturn, 1) := by decide +kernel
theorem dX5_placeFor_0 : decode cX5_placeFor 0 = .ok (.iconst 0, 1) := by decide +kernel
theorem dX5_placeFor_1 : decode cX5_placeFor 1 = .ok (.istore_n 3, 1) := by decide +kernel
theorem dX5_placeFor_2 : decode cX5_placeFor 2 = .ok (.iload_n 3, 1) := by decide +kernel
theorem dX5_placeFor_3 : decode cX5_placeFor 3 = .ok (.aload_n 0, 1) := by decide +kernel
theorem dX5_placeFor_4 : decode cX5_placeFor 4 = .ok (.getfield 21, 3) := by decide +kernel
theorem dX5_placeFor_7 : decode cX5_placeFor 7 = .ok (.if_icmp .ge 39, 3) := by decide +kernel
theorem dX5_placeFor_10 : decode cX5_placeFor 10 = .ok (.aload_n 0, 1) := by decide +kernel
theorem dX5_placeFor_11 : decode cX5_placeFor 11 = .ok (.getfield 9, 3) := by decide +kernel
theorem dX5_placeFor_14 : decode cX5_placeFor 14 = .ok (.iload_n 3, 1) := by decide +kernel
theorem dX5_placeFor_15 : decode cX5_placeFor 15 = .ok (.iaload, 1) := by decide +kernel
theorem dX5_placeFor_16 : decode cX5_placeFor 16 = .ok (.iload_n 1, 1) := by decide +kernel
theorem dX5_placeFor_17 : decode cX5_placeFor 17 = .ok (.if_icmp .gt 23, 3) := by decide +kernel
theorem dX5_placeFor_20 : decode cX5_placeFor 20 = .ok (.aload_n 0, 1) := by decide +kernel
theorem dX5_placeFor_21 : decode cX5_placeFor 21 = .ok (.getfield 9, 3) := by decide +kernel
theorem dX5_placeFor_24 : decode cX5_placeFor 24 = .ok (.iload_n 3, 1) := by decide +kernel
theorem dX5_placeFor_25 : decode cX5_placeFor 25 = .ok (.iaload, 1) := by decide +kernel
theorem dX5_placeFor_26 : decode cX5_placeFor 26 = .ok (.iload_n 1, 1) := by decide +kernel
theorem dX5_placeFor_27 : decode cX5_placeFor 27 = .ok (.if_icmp .ne 19, 3) := by decide +kernel
theorem dX5_placeFor_30 : decode cX5_placeFor 30 = .ok (.aload_n 0, 1) := by decide +kernel
theorem dX5_placeFor_31 : decode cX5_placeFor 31 = .ok (.getfield 15, 3) := by decide +kernel
theorem dX5_placeFor_34 : decode cX5_placeFor 34 = .ok (.iload_n 3, 1) := by decide +kernel
theorem dX5_placeFor_35 : decode cX5_placeFor 35 = .ok (.iaload, 1) := by decide +kernel
theorem dX5_placeFor_36 : decode cX5_placeFor 36 = .ok (.iload_n 2, 1) := by decide +kernel
theorem dX5_placeFor_37 : decode cX5_placeFor 37 = .ok (.if_icmp .le 9, 3) := by decide +kernel
theorem dX5_placeFor_40 : decode cX5_placeFor 40 = .ok (.iinc 3 1, 3) := by decide +kernel
theorem dX5_placeFor_43 : decode cX5_placeFor 43 = .ok (.goto (-41), 3) := by decide +kernel
theorem dX5_placeFor_46 : decode cX5_placeFor 46 = .ok (.iload_n 3, 1) := by decide +kernel
theorem dX5_placeFor_47 : decode cX5_placeFor 47 = .ok (.ireturn, 1) := by decide +kernel
theorem dX5_insertHeap_0 : decode cX5_insertHeap 0 = .ok (.aload_n 0, 1) := by decide +kernel
theorem dX5_insertHeap_1 : decode cX5_insertHeap 1 = .ok (.getfield 21, 3) := by decide +kernel
theorem dX5_insertHeap_4 : decode cX5_insertHeap 4 = .ok (.bipush 8, 2) := by decide +kernel
theorem dX5_insertHeap_6 : decode cX5_insertHeap 6 = .ok (.if_icmp .lt 5, 3) := by decide +kernel
theorem dX5_insertHeap_9 : decode cX5_insertHeap 9 = .ok (.iconst 0, 1) := by decide +kernel
theorem dX5_insertHeap_10 : decode cX5_insertHeap 10 = .ok (.ireturn, 1) := by decide +kernel
theorem dX5_insertHeap_11 : decode cX5_insertHeap 11 = .ok (.aload_n 0, 1) := by decide +kernel
theorem dX5_insertHeap_12 : decode cX5_insertHeap 12 = .ok (.getfield 21, 3) := by decide +kernel
theorem dX5_insertHeap_15 : decode cX5_insertHeap 15 = .ok (.istore 5, 2) := by decide +kernel
theorem dX5_insertHeap_17 : decode cX5_insertHeap 17 = .ok (.iload 5, 2) := by decide +kernel
theorem dX5_insertHeap_19 : decode cX5_insertHeap 19 = .ok (.iload_n 1, 1) := by decide +kernel
theorem dX5_insertHeap_20 : decode cX5_insertHeap 20 = .ok (.if_icmp .le 57, 3) := by decide +kernel
theorem dX5_insertHeap_23 : decode cX5_insertHeap 23 = .ok (.aload_n 0, 1) := by decide +kernel
theorem dX5_insertHeap_24 : decode cX5_insertHeap 24 = .ok (.getfield 9, 3) := by decide +kernel
theorem dX5_insertHeap_27 : decode cX5_insertHeap 27 = .ok (.iload 5, 2) := by decide +kernel
theorem dX5_insertHeap_29 : decode cX5_insertHeap 29 = .ok (.aload_n 0, 1) := by decide +kernel
theorem dX5_insertHeap_30 : decode cX5_insertHeap 30 = .ok (.getfield 9, 3) := by decide +kernel
theorem dX5_insertHeap_33 : decode cX5_insertHeap 33 = .ok (.iload 5, 2) := by decide +kernel
theorem dX5_insertHeap_35 : decode cX5_insertHeap 35 = .ok (.iconst 1, 1) := by decide +kernel
theorem dX5_insertHeap_36 : decode cX5_insertHeap 36 = .ok (.isub, 1) := by decide +kernel
theorem dX5_insertHeap_37 : decode cX5_insertHeap 37 = .ok (.iaload, 1) := by decide +kernel
theorem dX5_insertHeap_38 : decode cX5_insertHeap 38 = .ok (.iastore, 1) := by decide +kernel
theorem dX5_insertHeap_39 : decode cX5_insertHeap 39 = .ok (.aload_n 0, 1) := by decide +kernel
theorem dX5_insertHeap_40 : decode cX5_insertHeap 40 = .ok (.getfield 15, 3) := by decide +kernel
theorem dX5_insertHeap_43 : decode cX5_insertHeap 43 = .ok (.iload 5, 2) := by decide +kernel
theorem dX5_insertHeap_45 : decode cX5_insertHeap 45 = .ok (.aload_n 0, 1) := by decide +kernel
theorem dX5_insertHeap_46 : decode cX5_insertHeap 46 = .ok (.getfield 15, 3) := by decide +kernel
theorem dX5_insertHeap_49 : decode cX5_insertHeap 49 = .ok (.iload 5, 2) := by decide +kernel
theorem dX5_insertHeap_51 : decode cX5_insertHeap 51 = .ok (.iconst 1, 1) := by decide +kernel
theorem dX5_insertHeap_52 : decode cX5_insertHeap 52 = .ok (.isub, 1) := by decide +kernel
theorem dX5_insertHeap_53 : decode cX5_insertHeap 53 = .ok (.iaload, 1) := by decide +kernel
theorem dX5_insertHeap_54 : decode cX5_insertHeap 54 = .ok (.iastore, 1) := by decide +kernel
theorem dX5_insertHeap_55 : decode cX5_insertHeap 55 = .ok (.aload_n 0, 1) := by decide +kernel
theorem dX5_insertHeap_56 : decode cX5_insertHeap 56 = .ok (.getfield 18, 3) := by decide +kernel
theorem dX5_insertHeap_59 : decode cX5_insertHeap 59 = .ok (.iload 5, 2) := by decide +kernel
theorem dX5_insertHeap_61 : decode cX5_insertHeap 61 = .ok (.aload_n 0, 1) := by decide +kernel
theorem dX5_insertHeap_62 : decode cX5_insertHeap 62 = .ok (.getfield 18, 3) := by decide +kernel
theorem dX5_insertHeap_65 : decode cX5_insertHeap 65 = .ok (.iload 5, 2) := by decide +kernel
theorem dX5_insertHeap_67 : decode cX5_insertHeap 67 = .ok (.iconst 1, 1) := by decide +kernel
theorem dX5_insertHeap_68 : decode cX5_insertHeap 68 = .ok (.isub, 1) := by decide +kernel
theorem dX5_insertHeap_69 : decode cX5_insertHeap 69 = .ok (.iaload, 1) := by decide +kernel
theorem dX5_insertHeap_70 : decode cX5_insertHeap 70 = .ok (.iastore, 1) := by decide +kernel
theorem dX5_insertHeap_71 : decode cX5_insertHeap 71 = .ok (.iinc 5 (-1), 3) := by decide +kernel
theorem dX5_insertHeap_74 : decode cX5_insertHeap 74 = .ok (.goto (-57), 3) := by decide +kernel
theorem dX5_insertHeap_77 : decode cX5_insertHeap 77 = .ok (.aload_n 0, 1) := by decide +kernel
theorem dX5_insertHeap_78 : decode cX5_insertHeap 78 = .ok (.getfield 9, 3) := by decide +kernel
theorem dX5_insertHeap_81 : decode cX5_insertHeap 81 = .ok (.iload_n 1, 1) := by decide +kernel
theorem dX5_insertHeap_82 : decode cX5_insertHeap 82 = .ok (.iload_n 2, 1) := by decide +kernel
theorem dX5_insertHeap_83 : decode cX5_insertHeap 83 = .ok (.iastore, 1) := by decide +kernel
theorem dX5_insertHeap_84 : decode cX5_insertHeap 84 = .ok (.aload_n 0, 1) := by decide +kernel
theorem dX5_insertHeap_85 : decode cX5_insertHeap 85 = .ok (.getfield 15, 3) := by decide +kernel
theorem dX5_insertHeap_88 : decode cX5_insertHeap 88 = .ok (.iload_n 1, 1) := by decide +kernel
theorem dX5_insertHeap_89 : decode cX5_insertHeap 89 = .ok (.iload_n 3, 1) := by decide +kernel
theorem dX5_insertHeap_90 : decode cX5_insertHeap 90 = .ok (.iastore, 1) := by decide +kernel
theorem dX5_insertHeap_91 : decode cX5_insertHeap 91 = .ok (.aload_n 0, 1) := by decide +kernel
theorem dX5_insertHeap_92 : decode cX5_insertHeap 92 = .ok (.getfield 18, 3) := by decide +kernel
theorem dX5_insertHeap_95 : decode cX5_insertHeap 95 = .ok (.iload_n 1, 1) := by decide +kernel
theorem dX5_insertHeap_96 : decode cX5_insertHeap 96 = .ok (.iload 4, 2) := by decide +kernel
theorem dX5_insertHeap_98 : decode cX5_insertHeap 98 = .ok (.iastore, 1) := by decide +kernel
theorem dX5_insertHeap_99 : decode cX5_insertHeap 99 = .ok (.aload_n 0, 1) := by decide +kernel
theorem dX5_insertHeap_100 : decode cX5_insertHeap 100 = .ok (.dup, 1) := by decide +kernel
theorem dX5_insertHeap_101 : decode cX5_insertHeap 101 = .ok (.getfield 21, 3) := by decide +kernel
theorem dX5_insertHeap_104 : decode cX5_insertHeap 104 = .ok (.iconst 1, 1) := by decide +kernel
theorem dX5_insertHeap_105 : decode cX5_insertHeap 105 = .ok (.iadd, 1) := by decide +kernel
theorem dX5_insertHeap_106 : decode cX5_insertHeap 106 = .ok (.putfield 21, 3) := by decide +kernel
theorem dX5_insertHeap_109 : decode cX5_insertHeap 109 = .ok (.iconst 1, 1) := by decide +kernel
theorem dX5_insertHeap_110 : decode cX5_insertHeap 110 = .ok (.ireturn, 1) := by decide +kernel
theorem dX5_gaugeOf_0 : decode cX5_gaugeOf 0 = .ok (.iload_n 1, 1) := by decide +kernel
theorem dX5_gaugeOf_1 : decode cX5_gaugeOf 1 = .ok (.aload_n 0, 1) := by decide +kernel
theorem dX5_gaugeOf_2 : decode cX5_gaugeOf 2 = .ok (.getfield 31, 3) := by decide +kernel
theorem dX5_gaugeOf_5 : decode cX5_gaugeOf 5 = .ok (.isub, 1) := by decide +kernel
theorem dX5_gaugeOf_6 : decode cX5_gaugeOf 6 = .ok (.iconst 2, 1) := by decide +kernel
theorem dX5_gaugeOf_7 : decode cX5_gaugeOf 7 = .ok (.idiv, 1) := by decide +kernel
theorem dX5_gaugeOf_8 : decode cX5_gaugeOf 8 = .ok (.ireturn, 1) := by decide +kernel
theorem dX5_roomAt_0 : decode cX5_roomAt 0 = .ok (.bipush 20, 2) := by decide +kernel
theorem dX5_roomAt_2 : decode cX5_roomAt 2 = .ok (.aload_n 0, 1) := by decide +kernel
theorem dX5_roomAt_3 : decode cX5_roomAt 3 = .ok (.getfield 28, 3) := by decide +kernel
theorem dX5_roomAt_6 : decode cX5_roomAt 6 = .ok (.aload_n 0, 1) := by decide +kernel
theorem dX5_roomAt_7 : decode cX5_roomAt 7 = .ok (.getfield 37, 3) := by decide +kernel
theorem dX5_roomAt_10 : decode cX5_roomAt 10 = .ok (.iload_n 1, 1) := by decide +kernel
theorem dX5_roomAt_11 : decode cX5_roomAt 11 = .ok (.imul, 1) := by decide +kernel
theorem dX5_roomAt_12 : decode cX5_roomAt 12 = .ok (.bipush 10, 2) := by decide +kernel
theorem dX5_roomAt_14 : decode cX5_roomAt 14 = .ok (.idiv, 1) := by decide +kernel
theorem dX5_roomAt_15 : decode cX5_roomAt 15 = .ok (.isub, 1) := by decide +kernel
theorem dX5_roomAt_16 : decode cX5_roomAt 16 = .ok (.invokestatic 72, 3) := by decide +kernel
theorem dX5_roomAt_19 : decode cX5_roomAt 19 = .ok (.ireturn, 1) := by decide +kernel
set_option maxRecDepth 20000 in
theorem ggX5_isReadyBy_X3_head : GoodIn wsX5_isReadyBy wsX3_head := goodIn_r _ [6, 7, 8, 18, 19, 20, 21, 22, 23, 24, 25, 26] (by decide +kernel) (by decide +kernel)
set_option maxRecDepth 20000 in
theorem gX5_isReadyBy_X3_head : GoodIn wsX5_isReadyBy (wsV RX5 77 RX3 yX3_head wsX3_head) := goodIn_app (goodIn_of _ (by decide +kernel)) ggX5_isReadyBy_X3_head
theorem dX5_isReadyBy_0 : decode cX5_isReadyBy 0 = .ok (.aload_n 1, 1) := by decide +kernel
theorem dX5_isReadyBy_1 : decode cX5_isReadyBy 1 = .ok (.invokevirtual 77, 3) := by decide +kernel
theorem dX5_isReadyBy_4 : decode cX5_isReadyBy 4 = .ok (.aload_n 0, 1) := by decide +kernel
theorem dX5_isReadyBy_5 : decode cX5_isReadyBy 5 = .ok (.getfield 25, 3) := by decide +kernel
theorem dX5_isReadyBy_8 : decode cX5_isReadyBy 8 = .ok (.if_icmp .lt 7, 3) := by decide +kernel
theorem dX5_isReadyBy_11 : decode cX5_isReadyBy 11 = .ok (.iconst 1, 1) := by decide +kernel
theorem dX5_isReadyBy_12 : decode cX5_isReadyBy 12 = .ok (.goto 4, 3) := by decide +kernel
theorem dX5_isReadyBy_15 : decode cX5_isReadyBy 15 = .ok (.iconst 0, 1) := by decide +kernel
theorem dX5_isReadyBy_16 : decode cX5_isReadyBy 16 = .ok (.ireturn, 1) := by decide +kernel
set_option maxRecDepth 20000 in
theorem ggX6_init_X3_init : GoodIn wsX6_init wsX3_init := goodIn_r _ [14, 15, 2, 3, 4, 16, 17, 23, 24, 25, 26, 27, 28, 29, 30, 31] (by decide +kernel) (by decide +kernel)
set_option maxRecDepth 20000 in
theorem gX6_init_X3_init_n21 : GoodIn wsX6_init (wsX3_init) := ggX6_init_X3_init
theorem dX6_init_0 : decode cX6_init 0 = .ok (.aload_n 0, 1) := by decide +kernel
theorem dX6_init_1 : decode cX6_init 1 = .ok (.invokespecial 3, 3) := by decide +kernel
theorem dX6_init_4 : decode cX6_init 4 = .ok (.aload_n 0, 1) := by decide +kernel
theorem dX6_init_5 : decode cX6_init 5 = .ok (.bipush 8, 2) := by decide +kernel
theorem dX6_init_7 : decode cX6_init 7 = .ok (.newarray .int, 2) := by decide +kernel
theorem dX6_init_9 : decode cX6_init 9 = .ok (.putfield 9, 3) := by decide +kernel
theorem dX6_init_12 : decode cX6_init 12 = .ok (.aload_n 0, 1) := by decide +kernel
theorem dX6_init_13 : decode cX6_init 13 = .ok (.bipush 20, 2) := by decide +kernel
theorem dX6_init_15 : decode cX6_init 15 = .ok (.anewarray 15, 3) := by decide +kernel
theorem dX6_init_18 : decode cX6_init 18 = .ok (.putfield 17, 3) := by decide +kernel
theorem dX6_init_21 : decode cX6_init 21 = .ok (.aload_n 0, 1) := by decide +kernel
theorem dX6_init_22 : decode cX6_init 22 = .ok (.new 15, 3) := by decide +kernel
theorem dX6_init_25 : decode cX6_init 25 = .ok (.dup, 1) := by decide +kernel
theorem dX6_init_26 : decode cX6_init 26 = .ok (.invokespecial 21, 3) := by decide +kernel
theorem dX6_init_29 : decode cX6_init 29 = .ok (.putfield 22, 3) := by decide +kernel
theorem dX6_init_32 : decode cX6_init 32 = .ok (.aload_n 0, 1) := by decide +kernel
theorem dX6_init_33 : decode cX6_init 33 = .ok (.aload_n 1, 1) := by decide +kernel
theorem dX6_init_34 : decode cX6_init 34 = .ok (.putfield 26, 3) := by decide +kernel
theorem dX6_init_37 : decode cX6_init 37 = .ok (.aload_n 0, 1) := by decide +kernel
theorem dX6_init_38 : decode cX6_init 38 = .ok (.getfield 22, 3) := by decide +kernel
theorem dX6_init_41 : decode cX6_init 41 = .ok (.bipush 60, 2) := by decide +kernel
theorem dX6_init_43 : decode cX6_init 43 = .ok (.putfield 30, 3) := by decide +kernel
theorem dX6_init_46 : decode cX6_init 46 = .ok (.iconst 0, 1) := by decide +kernel
theorem dX6_init_47 : decode cX6_init 47 = .ok (.istore_n 2, 1) := by decide +kernel
theorem dX6_init_48 : decode cX6_init 48 = .ok (.iload_n 2, 1) := by decide +kernel
theorem dX6_init_49 : decode cX6_init 49 = .ok (.bipush 20, 2) := by decide +kernel
theorem dX6_init_51 : decode cX6_init 51 = .ok (.if_icmp .ge 19, 3) := by decide +kernel
theorem dX6_init_54 : decode cX6_init 54 = .ok (.aload_n 0, 1) := by decide +kernel
theorem dX6_init_55 : decode cX6_init 55 = .ok (.getfield 17, 3) := by decide +kernel
theorem dX6_init_58 : decode cX6_init 58 = .ok (.iload_n 2, 1) := by decide +kernel
theorem dX6_init_59 : decode cX6_init 59 = .ok (.aload_n 0, 1) := by decide +kernel
theorem dX6_init_60 : decode cX6_init 60 = .ok (.getfield 22, 3) := by decide +kernel
theorem dX6_init_63 : decode cX6_init 63 = .ok (.aastore, 1) := by decide +kernel
theorem dX6_init_64 : decode cX6_init 64 = .ok (.iinc 2 1, 3) := by decide +kernel
theorem dX6_init_67 : decode cX6_init 67 = .ok (.goto (-19), 3) := by decide +kernel
theorem dX6_init_70 : decode cX6_init 70 = .ok (.return_, 1) := by decide +kernel
theorem dX6_begin_0 : decode cX6_begin 0 = .ok (.aload_n 0, 1) := by decide +kernel
theorem dX6_begin_1 : decode cX6_begin 1 = .ok (.getfield 26, 3) := by decide +kernel
theorem dX6_begin_4 : decode cX6_begin 4 = .ok (.getfield 34, 3) := by decide +kernel
theorem dX6_begin_7 : decode cX6_begin 7 = .ok (.iconst 0, 1) := by decide +kernel
theorem dX6_begin_8 : decode cX6_begin 8 = .ok (.aload_n 0, 1) := by decide +kernel
theorem dX6_begin_9 : decode cX6_begin 9 = .ok (.getfield 9, 3) := by decide +kernel
theorem dX6_begin_12 : decode cX6_begin 12 = .ok (.iconst 0, 1) := by decide +kernel
theorem dX6_begin_13 : decode cX6_begin 13 = .ok (.bipush 8, 2) := by decide +kernel
theorem dX6_begin_15 : decode cX6_begin 15 = .ok (.invokestatic 39, 3) := by decide +kernel
theorem dX6_begin_18 : decode cX6_begin 18 = .ok (.aload_n 0, 1) := by decide +kernel
theorem dX6_begin_19 : decode cX6_begin 19 = .ok (.iconst 0, 1) := by decide +kernel
theorem dX6_begin_20 : decode cX6_begin 20 = .ok (.putfield 45, 3) := by decide +kernel
theorem dX6_begin_23 : decode cX6_begin 23 = .ok (.return_, 1) := by decide +kernel
theorem dX6_last_0 : decode cX6_last 0 = .ok (.aload_n 0, 1) := by decide +kernel
theorem dX6_last_1 : decode cX6_last 1 = .ok (.getfield 45, 3) := by decide +kernel
theorem dX6_last_4 : decode cX6_last 4 = .ok (.ifCond .le 17, 3) := by decide +kernel
theorem dX6_last_7 : decode cX6_last 7 = .ok (.aload_n 0, 1) := by decide +kernel
theorem dX6_last_8 : decode cX6_last 8 = .ok (.getfield 17, 3) := by decide +kernel
theorem dX6_last_11 : decode cX6_last 11 = .ok (.aload_n 0, 1) := by decide +kernel
theorem dX6_last_12 : decode cX6_last 12 = .ok (.getfield 45, 3) := by decide +kernel
theorem dX6_last_15 : decode cX6_last 15 = .ok (.iconst 1, 1) := by decide +kernel
theorem dX6_last_16 : decode cX6_last 16 = .ok (.isub, 1) := by decide +kernel
theorem dX6_last_17 : decode cX6_last 17 = .ok (.aaload, 1) := by decide +kernel
theorem dX6_last_18 : decode cX6_last 18 = .ok (.goto 7, 3) := by decide +kernel
theorem dX6_last_21 : decode cX6_last 21 = .ok (.aload_n 0, 1) := by decide +kernel
theorem dX6_last_22 : decode cX6_last 22 = .ok (.getfield 22, 3) := by decide +kernel
theorem dX6_last_25 : decode cX6_last 25 = .ok (.areturn, 1) := by decide +kernel
set_option maxRecDepth 20000 in
theorem ggX6_isOpen_X6_last : GoodIn wsX6_isOpen wsX6_last := goodIn_r _ [7, 1, 8, 9, 23, 24, 25, 26, 27] (by decide +kernel) (by decide +kernel)
set_option maxRecDepth 20000 in
theorem gX6_isOpen_X6_last : GoodIn wsX6_isOpen (wsV RX6 48 RX6 yX6_last wsX6_last) := goodIn_app (goodIn_of _ (by decide +kernel)) ggX6_isOpen_X6_last
set_option maxRecDepth 20000 in
theorem ggX6_isOpen_X5_isReadyBy : GoodIn wsX6_isOpen wsX5_isReadyBy := goodIn_r _ [14, 15, 16, 17, 18, 19, 20, 21, 22, 28, 29, 30, 31, 32, 33, 34, 35, 36, 37, 38, 39, 40, 41, 42, 43, 44, 45] (by decide +kernel) (by decide +kernel)
set_option maxRecDepth 20000 in
theorem gX6_isOpen_X5_isReadyBy : GoodIn wsX6_isOpen (wsV RX6 52 RX5 yX5_isReadyBy wsX5_isReadyBy) := goodIn_app (goodIn_of _ (by decide +kernel)) ggX6_isOpen_X5_isReadyBy
theorem dX6_isOpen_0 : decode cX6_isOpen 0 = .ok (.aload_n 0, 1) := by decide +kernel
theorem dX6_isOpen_1 : decode cX6_isOpen 1 = .ok (.getfield 45, 3) := by decide +kernel
theorem dX6_isOpen_4 : decode cX6_isOpen 4 = .ok (.bipush 20, 2) := by decide +kernel
theorem dX6_isOpen_6 : decode cX6_isOpen 6 = .ok (.if_icmp .ge 21, 3) := by decide +kernel
theorem dX6_isOpen_9 : decode cX6_isOpen 9 = .ok (.aload_n 0, 1) := by decide +kernel
theorem dX6_isOpen_10 : decode cX6_isOpen 10 = .ok (.getfield 26, 3) := by decide +kernel
theorem dX6_isOpen_13 : decode cX6_isOpen 13 = .ok (.aload_n 0, 1) := by decide +kernel
theorem dX6_isOpen_14 : decode cX6_isOpen 14 = .ok (.invokevirtual 48, 3) := by decide +kernel
theorem dX6_isOpen_17 : decode cX6_isOpen 17 = .ok (.invokevirtual 52, 3) := by decide +kernel
theorem dX6_isOpen_20 : decode cX6_isOpen 20 = .ok (.ifCond .ne 7, 3) := by decide +kernel
theorem dX6_isOpen_23 : decode cX6_isOpen 23 = .ok (.iconst 1, 1) := by decide +kernel
theorem dX6_isOpen_24 : decode cX6_isOpen 24 = .ok (.goto 4, 3) := by decide +kernel
theorem dX6_isOpen_27 : decode cX6_isOpen 27 = .ok (.iconst 0, 1) := by decide +kernel
theorem dX6_isOpen_28 : decode cX6_isOpen 28 = .ok (.ireturn, 1) := by decide +kernel
set_option maxRecDepth 20000 in
theorem ggX6_push_X6_addSlates : GoodIn wsX6_push wsX6_addSlates := goodIn_r _ [7, 8, 9, 15, 16, 17, 18, 19, 20, 21, 22, 23] (by decide +kernel) (by decide +kernel)
set_option maxRecDepth 20000 in
theorem gX6_push_X6_addSlates : GoodIn wsX6_push (va_wsS RX6 56 yX6_addSlates wsX6_addSlates) := goodIn_app (goodIn_of _ (by decide +kernel)) ggX6_push_X6_addSlates
theorem dX6_push_0 : decode cX6_push 0 = .ok (.aload_n 0, 1) := by decide +kernel
theorem dX6_push_1 : decode cX6_push 1 = .ok (.getfield 45, 3) := by decide +kernel
theorem dX6_push_4 : decode cX6_push 4 = .ok (.bipush 20, 2) := by decide +kernel
theorem dX6_push_6 : decode cX6_push 6 = .ok (.if_icmp .lt 4, 3) := by decide +kernel
theorem dX6_push_9 : decode cX6_push 9 = .ok (.return_, 1) := by decide +kernel
theorem dX6_push_10 : decode cX6_push 10 = .ok (.aload_n 0, 1) := by decide +kernel
theorem dX6_push_11 : decode cX6_push 11 = .ok (.getfield 17, 3) := by decide +kernel
theorem dX6_push_14 : decode cX6_push 14 = .ok (.aload_n 0, 1) := by decide +kernel
theorem dX6_push_15 : decode cX6_push 15 = .ok (.getfield 45, 3) := by decide +kernel
theorem dX6_push_18 : decode cX6_push 18 = .ok (.aload_n 1, 1) := by decide +kernel
theorem dX6_push_19 : decode cX6_push 19 = .ok (.aastore, 1) := by decide +kernel
theorem dX6_push_20 : decode cX6_push 20 = .ok (.aload_n 0, 1) := by decide +kernel
theorem dX6_push_21 : decode cX6_push 21 = .ok (.dup, 1) := by decide +kernel
theorem dX6_push_22 : decode cX6_push 22 = .ok (.getfield 45, 3) := by decide +kernel
theorem dX6_push_25 : decode cX6_push 25 = .ok (.iconst 1, 1) := by decide +kernel
theorem dX6_push_26 : decode cX6_push 26 = .ok (.iadd, 1) := by decide +kernel
theorem dX6_push_27 : decode cX6_push 27 = .ok (.putfield 45, 3) := by decide +kernel
theorem dX6_push_30 : decode cX6_push 30 = .ok (.aload_n 0, 1) := by decide +kernel
theorem dX6_push_31 : decode cX6_push 31 = .ok (.getfield 9, 3) := by decide +kernel
theorem dX6_push_34 : decode cX6_push 34 = .ok (.aload_n 1, 1) := by decide +kernel
theorem dX6_push_35 : decode cX6_push 35 = .ok (.iconst (-1), 1) := by decide +kernel
theorem dX6_push_36 : decode cX6_push 36 = .ok (.invokestatic 56, 3) := by decide +kernel
theorem dX6_push_39 : decode cX6_push 39 = .ok (.return_, 1) := by decide +kernel
set_option maxRecDepth 20000 in
theorem ggX6_pop_X6_last : GoodIn wsX6_pop wsX6_last := goodIn_r _ [7, 1, 8, 9, 15, 16, 17, 18, 19] (by decide +kernel) (by decide +kernel)
set_option maxRecDepth 20000 in
theorem gX6_pop_X6_last : GoodIn wsX6_pop (wsV RX6 48 RX6 yX6_last wsX6_last) := goodIn_app (goodIn_of _ (by decide +kernel)) ggX6_pop_X6_last
set_option maxRecDepth 20000 in
theorem ggX6_pop_X6_addSlates : GoodIn wsX6_pop wsX6_addSlates := goodIn_r _ [12, 13, 14, 20, 21, 22, 23, 24, 25, 26, 27, 28] (by decide +kernel) (by decide +kernel)
set_option maxRecDepth 20000 in
theorem gX6_pop_X6_addSlates : GoodIn wsX6_pop (va_wsS RX6 56 yX6_addSlates wsX6_addSlates) := goodIn_app (goodIn_of _ (by decide +kernel)) ggX6_pop_X6_addSlates
theorem dX6_pop_0 : decode cX6_pop 0 = .ok (.aload_n 0, 1) := by decide +kernel
theorem dX6_pop_1 : decode cX6_pop 1 = .ok (.invokevirtual 48, 3) := by decide +kernel
theorem dX6_pop_4 : decode cX6_pop 4 = .ok (.astore_n 1, 1) := by decide +kernel
theorem dX6_pop_5 : decode cX6_pop 5 = .ok (.aload_n 0, 1) := by decide +kernel
theorem dX6_pop_6 : decode cX6_pop 6 = .ok (.getfield 45, 3) := by decide +kernel
theorem dX6_pop_9 : decode cX6_pop 9 = .ok (.ifCond .le 22, 3) := by decide +kernel
theorem dX6_pop_12 : decode cX6_pop 12 = .ok (.aload_n 0, 1) := by decide +kernel
theorem dX6_pop_13 : decode cX6_pop 13 = .ok (.dup, 1) := by decide +kernel
theorem dX6_pop_14 : decode cX6_pop 14 = .ok (.getfield 45, 3) := by decide +kernel
theorem dX6_pop_17 : decode cX6_pop 17 = .ok (.iconst 1, 1) := by decide +kernel
theorem dX6_pop_18 : decode cX6_pop 18 = .ok (.isub, 1) := by decide +kernel
theorem dX6_pop_19 : decode cX6_pop 19 = .ok (.putfield 45, 3) := by decide +kernel
theorem dX6_pop_22 : decode cX6_pop 22 = .ok (.aload_n 0, 1) := by decide +kernel
theorem dX6_pop_23 : decode cX6_pop 23 = .ok (.getfield 9, 3) := by decide +kernel
theorem dX6_pop_26 : decode cX6_pop 26 = .ok (.aload_n 1, 1) := by decide +kernel
theorem dX6_pop_27 : decode cX6_pop 27 = .ok (.iconst 1, 1) := by decide +kernel
theorem dX6_pop_28 : decode cX6_pop 28 = .ok (.invokestatic 56, 3) := by decide +kernel
theorem dX6_pop_31 : decode cX6_pop 31 = .ok (.aload_n 1, 1) := by decide +kernel
theorem dX6_pop_32 : decode cX6_pop 32 = .ok (.areturn, 1) := by decide +kernel
theorem dX6_addSlates_0 : decode cX6_addSlates 0 = .ok (.iconst 0, 1) := by decide +kernel
theorem dX6_addSlates_1 : decode cX6_addSlates 1 = .ok (.istore_n 3, 1) := by decide +kernel
theorem dX6_addSlates_2 : decode cX6_addSlates 2 = .ok (.iload_n 3, 1) := by decide +kernel
theorem dX6_addSlates_3 : decode cX6_addSlates 3 = .ok (.aload_n 1, 1) := by decide +kernel
theorem dX6_addSlates_4 : decode cX6_addSlates 4 = .ok (.getfield 60, 3) := by decide +kernel
theorem dX6_addSlates_7 : decode cX6_addSlates 7 = .ok (.if_icmp .ge 21, 3) := by decide +kernel
theorem dX6_addSlates_10 : decode cX6_addSlates 10 = .ok (.aload_n 0, 1) := by decide +kernel
theorem dX6_addSlates_11 : decode cX6_addSlates 11 = .ok (.aload_n 1, 1) := by decide +kernel
theorem dX6_addSlates_12 : decode cX6_addSlates 12 = .ok (.getfield 61, 3) := by decide +kernel
theorem dX6_addSlates_15 : decode cX6_addSlates 15 = .ok (.iload_n 3, 1) := by decide +kernel
theorem dX6_addSlates_16 : decode cX6_addSlates 16 = .ok (.iaload, 1) := by decide +kernel
theorem dX6_addSlates_17 : decode cX6_addSlates 17 = .ok (.dup2, 1) := by decide +kernel
theorem dX6_addSlates_18 : decode cX6_addSlates 18 = .ok (.iaload, 1) := by decide +kernel
theorem dX6_addSlates_19 : decode cX6_addSlates 19 = .ok (.iload_n 2, 1) := by decide +kernel
theorem dX6_addSlates_20 : decode cX6_addSlates 20 = .ok (.iadd, 1) := by decide +kernel
theorem dX6_addSlates_21 : decode cX6_addSlates 21 = .ok (.iastore, 1) := by decide +kernel
theorem dX6_addSlates_22 : decode cX6_addSlates 22 = .ok (.iinc 3 1, 3) := by decide +kernel
theorem dX6_addSlates_25 : decode cX6_addSlates 25 = .ok (.goto (-23), 3) := by decide +kernel
theorem dX6_addSlates_28 : decode cX6_addSlates 28 = .ok (.return_, 1) := by decide +kernel
theorem dX6_laidOf_0 : decode cX6_laidOf 0 = .ok (.iconst 0, 1) := by decide +kernel
theorem dX6_laidOf_1 : decode cX6_laidOf 1 = .ok (.istore_n 2, 1) := by decide +kernel
theorem dX6_laidOf_2 : decode cX6_laidOf 2 = .ok (.iconst 0, 1) := by decide +kernel
theorem dX6_laidOf_3 : decode cX6_laidOf 3 = .ok (.istore_n 3, 1) := by decide +kernel
theorem dX6_laidOf_4 : decode cX6_laidOf 4 = .ok (.iload_n 3, 1) := by decide +kernel
theorem dX6_laidOf_5 : decode cX6_laidOf 5 = .ok (.aload_n 0, 1) := by decide +kernel
theorem dX6_laidOf_6 : decode cX6_laidOf 6 = .ok (.getfield 45, 3) := by decide +kernel
theorem dX6_laidOf_9 : decode cX6_laidOf 9 = .ok (.if_icmp .ge 51, 3) := by decide +kernel
theorem dX6_laidOf_12 : decode cX6_laidOf 12 = .ok (.aload_n 0, 1) := by decide +kernel
theorem dX6_laidOf_13 : decode cX6_laidOf 13 = .ok (.getfield 17, 3) := by decide +kernel
theorem dX6_laidOf_16 : decode cX6_laidOf 16 = .ok (.iload_n 3, 1) := by decide +kernel
theorem dX6_laidOf_17 : decode cX6_laidOf 17 = .ok (.aaload, 1) := by decide +kernel
theorem dX6_laidOf_18 : decode cX6_laidOf 18 = .ok (.astore 4, 2) := by decide +kernel
theorem dX6_laidOf_20 : decode cX6_laidOf 20 = .ok (.iconst 0, 1) := by decide +kernel
theorem dX6_laidOf_21 : decode cX6_laidOf 21 = .ok (.istore 5, 2) := by decide +kernel
theorem dX6_laidOf_23 : decode cX6_laidOf 23 = .ok (.iload 5, 2) := by decide +kernel
theorem dX6_laidOf_25 : decode cX6_laidOf 25 = .ok (.aload 4, 2) := by decide +kernel
theorem dX6_laidOf_27 : decode cX6_laidOf 27 = .ok (.getfield 60, 3) := by decide +kernel
theorem dX6_laidOf_30 : decode cX6_laidOf 30 = .ok (.if_icmp .ge 24, 3) := by decide +kernel
theorem dX6_laidOf_33 : decode cX6_laidOf 33 = .ok (.aload 4, 2) := by decide +kernel
theorem dX6_laidOf_35 : decode cX6_laidOf 35 = .ok (.getfield 61, 3) := by decide +kernel
theorem dX6_laidOf_38 : decode cX6_laidOf 38 = .ok (.iload 5, 2) := by decide +kernel
theorem dX6_laidOf_40 : decode cX6_laidOf 40 = .ok (.iaload, 1) := by decide +kernel
theorem dX6_laidOf_41 : decode cX6_laidOf 41 = .ok (.iload_n 1, 1) := by decide +kernel
theorem dX6_laidOf_42 : decode cX6_laidOf 42 = .ok (.if_icmp .ne 6, 3) := by decide +kernel
theorem dX6_laidOf_45 : decode cX6_laidOf 45 = .ok (.iinc 2 1, 3) := by decide +kernel
theorem dX6_laidOf_48 : decode cX6_laidOf 48 = .ok (.iinc 5 1, 3) := by decide +kernel
theorem dX6_laidOf_51 : decode cX6_laidOf 51 = .ok (.goto (-28), 3) := by decide +kernel
theorem dX6_laidOf_54 : decode cX6_laidOf 54 = .ok (.iinc 3 1, 3) := by decide +kernel
theorem dX6_laidOf_57 : decode cX6_laidOf 57 = .ok (.goto (-53), 3) := by decide +kernel
theorem dX6_laidOf_60 : decode cX6_laidOf 60 = .ok (.iload_n 2, 1) := by decide +kernel
theorem dX6_laidOf_61 : decode cX6_laidOf 61 = .ok (.ireturn, 1) := by decide +kernel
theorem dX6_lapHeldBy_0 : decode cX6_lapHeldBy 0 = .ok (.iload_n 1, 1) := by decide +kernel
theorem dX6_lapHeldBy_1 : decode cX6_lapHeldBy 1 = .ok (.ifCond .lt 13, 3) := by decide +kernel
theorem dX6_lapHeldBy_4 : decode cX6_lapHeldBy 4 = .ok (.iload_n 1, 1) := by decide +kernel
theorem dX6_lapHeldBy_5 : decode cX6_lapHeldBy 5 = .ok (.aload_n 0, 1) := by decide +kernel
theorem dX6_lapHeldBy_6 : decode cX6_lapHeldBy 6 = .ok (.getfield 45, 3) := by decide +kernel
theorem dX6_lapHeldBy_9 : decode cX6_lapHeldBy 9 = .ok (.iconst 1, 1) := by decide +kernel
theorem dX6_lapHeldBy_10 : decode cX6_lapHeldBy 10 = .ok (.isub, 1) := by decide +kernel
theorem dX6_lapHeldBy_11 : decode cX6_lapHeldBy 11 = .ok (.if_icmp .lt 6, 3) := by decide +kernel
theorem dX6_lapHeldBy_14 : decode cX6_lapHeldBy 14 = .ok (.bipush (-4), 2) := by decide +kernel
theorem dX6_lapHeldBy_16 : decode cX6_lapHeldBy 16 = .ok (.ireturn, 1) := by decide +kernel
theorem dX6_lapHeldBy_17 : decode cX6_lapHeldBy 17 = .ok (.aload_n 0, 1) := by decide +kernel
theorem dX6_lapHeldBy_18 : decode cX6_lapHeldBy 18 = .ok (.getfield 17, 3) := by decide +kernel
theorem dX6_lapHeldBy_21 : decode cX6_lapHeldBy 21 = .ok (.iload_n 1, 1) := by decide +kernel
theorem dX6_lapHeldBy_22 : decode cX6_lapHeldBy 22 = .ok (.aaload, 1) := by decide +kernel
theorem dX6_lapHeldBy_23 : decode cX6_lapHeldBy 23 = .ok (.getfield 30, 3) := by decide +kernel
theorem dX6_lapHeldBy_26 : decode cX6_lapHeldBy 26 = .ok (.aload_n 0, 1) := by decide +kernel
theorem dX6_lapHeldBy_27 : decode cX6_lapHeldBy 27 = .ok (.getfield 17, 3) := by decide +kernel
theorem dX6_lapHeldBy_30 : decode cX6_lapHeldBy 30 = .ok (.iload_n 1, 1) := by decide +kernel
theorem dX6_lapHeldBy_31 : decode cX6_lapHeldBy 31 = .ok (.aaload, 1) := by decide +kernel
theorem dX6_lapHeldBy_32 : decode cX6_lapHeldBy 32 = .ok (.getfield 64, 3) := by decide +kernel
theorem dX6_lapHeldBy_35 : decode cX6_lapHeldBy 35 = .ok (.isub, 1) := by decide +kernel
theorem dX6_lapHeldBy_36 : decode cX6_lapHeldBy 36 = .ok (.aload_n 0, 1) := by decide +kernel
theorem dX6_lapHeldBy_37 : decode cX6_lapHeldBy 37 = .ok (.getfield 17, 3) := by decide +kernel
theorem dX6_lapHeldBy_40 : decode cX6_lapHeldBy 40 = .ok (.iload_n 1, 1) := by decide +kernel
theorem dX6_lapHeldBy_41 : decode cX6_lapHeldBy 41 = .ok (.iconst 1, 1) := by decide +kernel
theorem dX6_lapHeldBy_42 : decode cX6_lapHeldBy 42 = .ok (.iadd, 1) := by decide +kernel
theorem dX6_lapHeldBy_43 : decode cX6_lapHeldBy 43 = .ok (.aaload, 1) := by decide +kernel
theorem dX6_lapHeldBy_44 : decode cX6_lapHeldBy 44 = .ok (.getfield 64, 3) := by decide +kernel
theorem dX6_lapHeldBy_47 : decode cX6_lapHeldBy 47 = .ok (.isub, 1) := by decide +kernel
theorem dX6_lapHeldBy_48 : decode cX6_lapHeldBy 48 = .ok (.ireturn, 1) := by decide +kernel
theorem dX6_waste_0 : decode cX6_waste 0 = .ok (.iconst 0, 1) := by decide +kernel
theorem dX6_waste_1 : decode cX6_waste 1 = .ok (.istore_n 1, 1) := by decide +kernel
theorem dX6_waste_2 : decode cX6_waste 2 = .ok (.iconst 0, 1) := by decide +kernel
theorem dX6_waste_3 : decode cX6_waste 3 = .ok (.istore_n 2, 1) := by decide +kernel
theorem dX6_waste_4 : decode cX6_waste 4 = .ok (.iload_n 2, 1) := by decide +kernel
theorem dX6_waste_5 : decode cX6_waste 5 = .ok (.aload_n 0, 1) := by decide +kernel
theorem dX6_waste_6 : decode cX6_waste 6 = .ok (.getfield 45, 3) := by decide +kernel
theorem dX6_waste_9 : decode cX6_waste 9 = .ok (.if_icmp .ge 21, 3) := by decide +kernel
theorem dX6_waste_12 : decode cX6_waste 12 = .ok (.iload_n 1, 1) := by decide +kernel
theorem dX6_waste_13 : decode cX6_waste 13 = .ok (.aload_n 0, 1) := by decide +kernel
theorem dX6_waste_14 : decode cX6_waste 14 = .ok (.getfield 17, 3) := by decide +kernel
theorem dX6_waste_17 : decode cX6_waste 17 = .ok (.iload_n 2, 1) := by decide +kernel
theorem dX6_waste_18 : decode cX6_waste 18 = .ok (.aaload, 1) := by decide +kernel
theorem dX6_waste_19 : decode cX6_waste 19 = .ok (.getfield 67, 3) := by decide +kernel
theorem dX6_waste_22 : decode cX6_waste 22 = .ok (.iadd, 1) := by decide +kernel
theorem dX6_waste_23 : decode cX6_waste 23 = .ok (.istore_n 1, 1) := by decide +kernel
theorem dX6_waste_24 : decode cX6_waste 24 = .ok (.iinc 2 1, 3) := by decide +kernel
theorem dX6_waste_27 : decode cX6_waste 27 = .ok (.goto (-23), 3) := by decide +kernel
theorem dX6_waste_30 : decode cX6_waste 30 = .ok (.iload_n 1, 1) := by decide +kernel
theorem dX6_waste_31 : decode cX6_waste 31 = .ok (.ireturn, 1) := by decide +kernel
theorem dX6_slatesLeft_0 : decode cX6_slatesLeft 0 = .ok (.iconst 0, 1) := by decide +kernel
theorem dX6_slatesLeft_1 : decode cX6_slatesLeft 1 = .ok (.istore_n 1, 1) := by decide +kernel
theorem dX6_slatesLeft_2 : decode cX6_slatesLeft 2 = .ok (.iconst 0, 1) := by decide +kernel
theorem dX6_slatesLeft_3 : decode cX6_slatesLeft 3 = .ok (.istore_n 2, 1) := by decide +kernel
theorem dX6_slatesLeft_4 : decode cX6_slatesLeft 4 = .ok (.iload_n 2, 1) := by decide +kernel
theorem dX6_slatesLeft_5 : decode cX6_slatesLeft 5 = .ok (.aload_n 0, 1) := by decide +kernel
theorem dX6_slatesLeft_6 : decode cX6_slatesLeft 6 = .ok (.getfield 26, 3) := by decide +kernel
theorem dX6_slatesLeft_9 : decode cX6_slatesLeft 9 = .ok (.getfield 70, 3) := by decide +kernel
theorem dX6_slatesLeft_12 : decode cX6_slatesLeft 12 = .ok (.if_icmp .ge 18, 3) := by decide +kernel
theorem dX6_slatesLeft_15 : decode cX6_slatesLeft 15 = .ok (.iload_n 1, 1) := by decide +kernel
theorem dX6_slatesLeft_16 : decode cX6_slatesLeft 16 = .ok (.aload_n 0, 1) := by decide +kernel
theorem dX6_slatesLeft_17 : decode cX6_slatesLeft 17 = .ok (.getfield 9, 3) := by decide +kernel
theorem dX6_slatesLeft_20 : decode cX6_slatesLeft 20 = .ok (.iload_n 2, 1) := by decide +kernel
theorem dX6_slatesLeft_21 : decode cX6_slatesLeft 21 = .ok (.iaload, 1) := by decide +kernel
theorem dX6_slatesLeft_22 : decode cX6_slatesLeft 22 = .ok (.iadd, 1) := by decide +kernel
theorem dX6_slatesLeft_23 : decode cX6_slatesLeft 23 = .ok (.istore_n 1, 1) := by decide +kernel
theorem dX6_slatesLeft_24 : decode cX6_slatesLeft 24 = .ok (.iinc 2 1, 3) := by decide +kernel
theorem dX6_slatesLeft_27 : decode cX6_slatesLeft 27 = .ok (.goto (-23), 3) := by decide +kernel
theorem dX6_slatesLeft_30 : decode cX6_slatesLeft 30 = .ok (.iload_n 1, 1) := by decide +kernel
theorem dX6_slatesLeft_31 : decode cX6_slatesLeft 31 = .ok (.ireturn, 1) := by decide +kernel
theorem dX7_init_0 : decode cX7_init 0 = .ok (.aload_n 0, 1) := by decide +kernel
theorem dX7_init_1 : decode cX7_init 1 = .ok (.invokespecial 3, 3) := by decide +kernel
theorem dX7_init_4 : decode cX7_init 4 = .ok (.aload_n 0, 1) := by decide +kernel
theorem dX7_init_5 : decode cX7_init 5 = .ok (.sipush 200, 3) := by decide +kernel
theorem dX7_init_8 : decode cX7_init 8 = .ok (.newarray .char, 2) := by decide +kernel
theorem dX7_init_10 : decode cX7_init 10 = .ok (.putfield 9, 3) := by decide +kernel
theorem dX7_init_13 : decode cX7_init 13 = .ok (.aload_n 0, 1) := by decide +kernel
theorem dX7_init_14 : decode cX7_init 14 = .ok (.iconst 3, 1) := by decide +kernel
theorem dX7_init_15 : decode cX7_init 15 = .ok (.newarray .int, 2) := by decide +kernel
theorem dX7_init_17 : decode cX7_init 17 = .ok (.putfield 15, 3) := by decide +kernel
theorem dX7_init_20 : decode cX7_init 20 = .ok (.return_, 1) := by decide +kernel
theorem dX7_append_0 : decode cX7_append 0 = .ok (.aload_n 0, 1) := by decide +kernel
theorem dX7_append_1 : decode cX7_append 1 = .ok (.getfield 19, 3) := by decide +kernel
theorem dX7_append_4 : decode cX7_append 4 = .ok (.sipush 200, 3) := by decide +kernel
theorem dX7_append_7 : decode cX7_append 7 = .ok (.if_icmp .lt 5, 3) := by decide +kernel
theorem dX7_append_10 : decode cX7_append 10 = .ok (.iconst 0, 1) := by decide +kernel
theorem dX7_append_11 : decode cX7_append 11 = .ok (.ireturn, 1) := by decide +kernel
theorem dX7_append_12 : decode cX7_append 12 = .ok (.aload_n 0, 1) := by decide +kernel
theorem dX7_append_13 : decode cX7_append 13 = .ok (.getfield 9, 3) := by decide +kernel
theorem dX7_append_16 : decode cX7_append 16 = .ok (.aload_n 0, 1) := by decide +kernel
theorem dX7_append_17 : decode cX7_append 17 = .ok (.getfield 19, 3) := by decide +kernel
theorem dX7_append_20 : decode cX7_append 20 = .ok (.iload_n 1, 1) := by decide +kernel
theorem dX7_append_21 : decode cX7_append 21 = .ok (.castore, 1) := by decide +kernel
theorem dX7_append_22 : decode cX7_append 22 = .ok (.aload_n 0, 1) := by decide +kernel
theorem dX7_append_23 : decode cX7_append 23 = .ok (.dup, 1) := by decide +kernel
theorem dX7_append_24 : decode cX7_append 24 = .ok (.getfield 19, 3) := by decide +kernel
theorem dX7_append_27 : decode cX7_append 27 = .ok (.iconst 1, 1) := by decide +kernel
theorem dX7_append_28 : decode cX7_append 28 = .ok (.iadd, 1) := by decide +kernel
theorem dX7_append_29 : decode cX7_append 29 = .ok (.putfield 19, 3) := by decide +kernel
theorem dX7_append_32 : decode cX7_append 32 = .ok (.iconst 1, 1) := by decide +kernel
theorem dX7_append_33 : decode cX7_append 33 = .ok (.ireturn, 1) := by decide +kernel
theorem dX7_clear_0 : decode cX7_clear 0 = .ok (.aload_n 0, 1) := by decide +kernel
theorem dX7_clear_1 : decode cX7_clear 1 = .ok (.iconst 0, 1) := by decide +kernel
theorem dX7_clear_2 : decode cX7_clear 2 = .ok (.putfield 19, 3) := by decide +kernel
theorem dX7_clear_5 : decode cX7_clear 5 = .ok (.return_, 1) := by decide +kernel
set_option maxRecDepth 20000 in
theorem ggX7_readInto_X5_clear : GoodIn wsX7_readInto wsX5_clear := goodIn_r _ [7, 8, 9, 10, 11, 12, 13, 77, 78, 79, 80, 81, 82, 83, 84, 85] (by decide +kernel) (by decide +kernel)
set_option maxRecDepth 20000 in
theorem gX7_readInto_X5_clear : GoodIn wsX7_readInto (wsV RX7 23 RX5 yX5_clear wsX5_clear) := goodIn_app (goodIn_of _ (by decide +kernel)) ggX7_readInto_X5_clear
set_option maxRecDepth 20000 in
theorem ggX7_readInto_X7_readItem : GoodIn wsX7_readInto wsX7_readItem := goodIn_r _ [18, 1, 19, 20, 21, 22, 17, 23, 2, 24, 25, 26, 27, 28, 29, 30, 31, 32, 33, 34, 35, 36, 37, 38, 39, 40, 41, 6, 42, 43, 44, 45, 46, 8, 47, 48, 49, 50, 51, 52, 53, 54, 55, 56, 57, 58, 59, 60, 61, 62, 63, 64, 9, 10, 65, 66, 67, 68, 11, 12, 69, 70, 71, 72, 13, 73, 74, 75, 76, 77, 78, 79, 80, 81, 82, 83, 84, 85] (by decide +kernel) (by decide +kernel)
set_option maxRecDepth 20000 in
theorem gX7_readInto_X7_readItem : GoodIn wsX7_readInto (wsV RX7 31 RX7 yX7_readItem wsX7_readItem) := goodIn_app (goodIn_of _ (by decide +kernel)) ggX7_readInto_X7_readItem
theorem dX7_readInto_0 : decode cX7_readInto 0 = .ok (.aload_n 1, 1) := by decide +kernel
theorem dX7_readInto_1 : decode cX7_readInto 1 = .ok (.invokevirtual 23, 3) := by decide +kernel
theorem dX7_readInto_4 : decode cX7_readInto 4 = .ok (.aload_n 0, 1) := by decide +kernel
theorem dX7_readInto_5 : decode cX7_readInto 5 = .ok (.iconst 0, 1) := by decide +kernel
theorem dX7_readInto_6 : decode cX7_readInto 6 = .ok (.putfield 28, 3) := by decide +kernel
theorem dX7_readInto_9 : decode cX7_readInto 9 = .ok (.iconst 0, 1) := by decide +kernel
theorem dX7_readInto_10 : decode cX7_readInto 10 = .ok (.istore_n 2, 1) := by decide +kernel
theorem dX7_readInto_11 : decode cX7_readInto 11 = .ok (.iload_n 2, 1) := by decide +kernel
theorem dX7_readInto_12 : decode cX7_readInto 12 = .ok (.sipush 200, 3) := by decide +kernel
theorem dX7_readInto_15 : decode cX7_readInto 15 = .ok (.if_icmp .ge 35, 3) := by decide +kernel
theorem dX7_readInto_18 : decode cX7_readInto 18 = .ok (.aload_n 0, 1) := by decide +kernel
theorem dX7_readInto_19 : decode cX7_readInto 19 = .ok (.getfield 28, 3) := by decide +kernel
theorem dX7_readInto_22 : decode cX7_readInto 22 = .ok (.aload_n 0, 1) := by decide +kernel
theorem dX7_readInto_23 : decode cX7_readInto 23 = .ok (.getfield 19, 3) := by decide +kernel
theorem dX7_readInto_26 : decode cX7_readInto 26 = .ok (.if_icmp .ge 24, 3) := by decide +kernel
theorem dX7_readInto_29 : decode cX7_readInto 29 = .ok (.aload_n 0, 1) := by decide +kernel
theorem dX7_readInto_30 : decode cX7_readInto 30 = .ok (.getfield 28, 3) := by decide +kernel
theorem dX7_readInto_33 : decode cX7_readInto 33 = .ok (.istore_n 3, 1) := by decide +kernel
theorem dX7_readInto_34 : decode cX7_readInto 34 = .ok (.aload_n 0, 1) := by decide +kernel
theorem dX7_readInto_35 : decode cX7_readInto 35 = .ok (.aload_n 1, 1) := by decide +kernel
theorem dX7_readInto_36 : decode cX7_readInto 36 = .ok (.invokevirtual 31, 3) := by decide +kernel
theorem dX7_readInto_39 : decode cX7_readInto 39 = .ok (.ifCond .ne 5, 3) := by decide +kernel
theorem dX7_readInto_42 : decode cX7_readInto 42 = .ok (.iload_n 3, 1) := by decide +kernel
theorem dX7_readInto_43 : decode cX7_readInto 43 = .ok (.ireturn, 1) := by decide +kernel
theorem dX7_readInto_44 : decode cX7_readInto 44 = .ok (.iinc 2 1, 3) := by decide +kernel
theorem dX7_readInto_47 : decode cX7_readInto 47 = .ok (.goto (-36), 3) := by decide +kernel
theorem dX7_readInto_50 : decode cX7_readInto 50 = .ok (.bipush (-4), 2) := by decide +kernel
theorem dX7_readInto_52 : decode cX7_readInto 52 = .ok (.ireturn, 1) := by decide +kernel
set_option maxRecDepth 20000 in
theorem ggX7_readItem_X7_letterHere : GoodIn wsX7_readItem wsX7_letterHere := goodIn_r _ [7, 1, 8, 9, 65, 66, 67, 68] (by decide +kernel) (by decide +kernel)
set_option maxRecDepth 20000 in
theorem gX7_readItem_X7_letterHere : GoodIn wsX7_readItem (wsV RX7 35 RX7 yX7_letterHere wsX7_letterHere) := goodIn_app (goodIn_of _ (by decide +kernel)) ggX7_readItem_X7_letterHere
set_option maxRecDepth 20000 in
theorem ggX7_readItem_X7_numbersOf : GoodIn wsX7_readItem wsX7_numbersOf := goodIn_r _ [12] (by decide +kernel) (by decide +kernel)
set_option maxRecDepth 20000 in
theorem gX7_readItem_X7_numbersOf : GoodIn wsX7_readItem (va_wsS RX7 39 yX7_numbersOf wsX7_numbersOf) := goodIn_app (goodIn_of _ (by decide +kernel)) ggX7_readItem_X7_numbersOf
set_option maxRecDepth 20000 in
theorem ggX7_readItem_X7_readNumber : GoodIn wsX7_readItem wsX7_readNumber := goodIn_r _ [16, 17, 18, 19, 20, 1, 3, 4, 5, 6, 7, 8, 9, 21, 22, 23, 65, 66, 67, 68] (by decide +kernel) (by decide +kernel)
set_option maxRecDepth 20000 in
theorem gX7_readItem_X7_readNumber : GoodIn wsX7_readItem (wsV RX7 43 RX7 yX7_readNumber wsX7_readNumber) := goodIn_app (goodIn_of _ (by decide +kernel)) ggX7_readItem_X7_readNumber
set_option maxRecDepth 20000 in
theorem ggX7_readItem_X5_take : GoodIn wsX7_readItem wsX5_take := goodIn_r _ [28, 29, 30, 31, 27, 32, 33, 34, 35, 36, 37, 38, 39, 40, 41, 42, 43, 44, 45, 46, 47, 48, 49, 50, 51, 52, 53, 54, 55, 56, 57, 58, 59, 60, 61, 62, 63, 64, 69, 70, 71, 72, 73, 74, 75, 76, 77] (by decide +kernel) (by decide +kernel)
set_option maxRecDepth 20000 in
theorem gX7_readItem_X5_take : GoodIn wsX7_readItem (wsV RX7 47 RX5 yX5_take wsX5_take) := goodIn_app (goodIn_of _ (by decide +kernel)) ggX7_readItem_X5_take
theorem dX7_readItem_0 : decode cX7_readItem 0 = .ok (.aload_n 0, 1) := by decide +kernel
theorem dX7_readItem_1 : decode cX7_readItem 1 = .ok (.invokevirtual 35, 3) := by decide +kernel
theorem dX7_readItem_4 : decode cX7_readItem 4 = .ok (.istore_n 2, 1) := by decide +kernel
theorem dX7_readItem_5 : decode cX7_readItem 5 = .ok (.aload_n 0, 1) := by decide +kernel
theorem dX7_readItem_6 : decode cX7_readItem 6 = .ok (.dup, 1) := by decide +kernel
theorem dX7_readItem_7 : decode cX7_readItem 7 = .ok (.getfield 28, 3) := by decide +kernel
theorem dX7_readItem_10 : decode cX7_readItem 10 = .ok (.iconst 1, 1) := by decide +kernel
theorem dX7_readItem_11 : decode cX7_readItem 11 = .ok (.iadd, 1) := by decide +kernel
theorem dX7_readItem_12 : decode cX7_readItem 12 = .ok (.putfield 28, 3) := by decide +kernel
theorem dX7_readItem_15 : decode cX7_readItem 15 = .ok (.iload_n 2, 1) := by decide +kernel
theorem dX7_readItem_16 : decode cX7_readItem 16 = .ok (.invokestatic 39, 3) := by decide +kernel
theorem dX7_readItem_19 : decode cX7_readItem 19 = .ok (.istore_n 3, 1) := by decide +kernel
theorem dX7_readItem_20 : decode cX7_readItem 20 = .ok (.iconst 0, 1) := by decide +kernel
theorem dX7_readItem_21 : decode cX7_readItem 21 = .ok (.istore 4, 2) := by decide +kernel
theorem dX7_readItem_23 : decode cX7_readItem 23 = .ok (.iload 4, 2) := by decide +kernel
theorem dX7_readItem_25 : decode cX7_readItem 25 = .ok (.iload_n 3, 1) := by decide +kernel
theorem dX7_readItem_26 : decode cX7_readItem 26 = .ok (.if_icmp .ge 68, 3) := by decide +kernel
theorem dX7_readItem_29 : decode cX7_readItem 29 = .ok (.aload_n 0, 1) := by decide +kernel
theorem dX7_readItem_30 : decode cX7_readItem 30 = .ok (.getfield 15, 3) := by decide +kernel
theorem dX7_readItem_33 : decode cX7_readItem 33 = .ok (.iload 4, 2) := by decide +kernel
theorem dX7_readItem_35 : decode cX7_readItem 35 = .ok (.aload_n 0, 1) := by decide +kernel
theorem dX7_readItem_36 : decode cX7_readItem 36 = .ok (.invokevirtual 43, 3) := by decide +kernel
theorem dX7_readItem_39 : decode cX7_readItem 39 = .ok (.iastore, 1) := by decide +kernel
theorem dX7_readItem_40 : decode cX7_readItem 40 = .ok (.iload 4, 2) := by decide +kernel
theorem dX7_readItem_42 : decode cX7_readItem 42 = .ok (.iload_n 3, 1) := by decide +kernel
theorem dX7_readItem_43 : decode cX7_readItem 43 = .ok (.iconst 1, 1) := by decide +kernel
theorem dX7_readItem_44 : decode cX7_readItem 44 = .ok (.isub, 1) := by decide +kernel
theorem dX7_readItem_45 : decode cX7_readItem 45 = .ok (.if_icmp .ge 8, 3) := by decide +kernel
theorem dX7_readItem_48 : decode cX7_readItem 48 = .ok (.bipush 44, 2) := by decide +kernel
theorem dX7_readItem_50 : decode cX7_readItem 50 = .ok (.goto 5, 3) := by decide +kernel
theorem dX7_readItem_53 : decode cX7_readItem 53 = .ok (.bipush 59, 2) := by decide +kernel
theorem dX7_readItem_55 : decode cX7_readItem 55 = .ok (.istore 5, 2) := by decide +kernel
theorem dX7_readItem_57 : decode cX7_readItem 57 = .ok (.aload_n 0, 1) := by decide +kernel
theorem dX7_readItem_58 : decode cX7_readItem 58 = .ok (.getfield 15, 3) := by decide +kernel
theorem dX7_readItem_61 : decode cX7_readItem 61 = .ok (.iload 4, 2) := by decide +kernel
theorem dX7_readItem_63 : decode cX7_readItem 63 = .ok (.iaload, 1) := by decide +kernel
theorem dX7_readItem_64 : decode cX7_readItem 64 = .ok (.ifCond .lt 12, 3) := by decide +kernel
theorem dX7_readItem_67 : decode cX7_readItem 67 = .ok (.aload_n 0, 1) := by decide +kernel
theorem dX7_readItem_68 : decode cX7_readItem 68 = .ok (.invokevirtual 35, 3) := by decide +kernel
theorem dX7_readItem_71 : decode cX7_readItem 71 = .ok (.iload 5, 2) := by decide +kernel
theorem dX7_readItem_73 : decode cX7_readItem 73 = .ok (.if_icmp .eq 5, 3) := by decide +kernel
theorem dX7_readItem_76 : decode cX7_readItem 76 = .ok (.iconst 0, 1) := by decide +kernel
theorem dX7_readItem_77 : decode cX7_readItem 77 = .ok (.ireturn, 1) := by decide +kernel
theorem dX7_readItem_78 : decode cX7_readItem 78 = .ok (.aload_n 0, 1) := by decide +kernel
theorem dX7_readItem_79 : decode cX7_readItem 79 = .ok (.dup, 1) := by decide +kernel
theorem dX7_readItem_80 : decode cX7_readItem 80 = .ok (.getfield 28, 3) := by decide +kernel
theorem dX7_readItem_83 : decode cX7_readItem 83 = .ok (.iconst 1, 1) := by decide +kernel
theorem dX7_readItem_84 : decode cX7_readItem 84 = .ok (.iadd, 1) := by decide +kernel
theorem dX7_readItem_85 : decode cX7_readItem 85 = .ok (.putfield 28, 3) := by decide +kernel
theorem dX7_readItem_88 : decode cX7_readItem 88 = .ok (.iinc 4 1, 3) := by decide +kernel
theorem dX7_readItem_91 : decode cX7_readItem 91 = .ok (.goto (-68), 3) := by decide +kernel
theorem dX7_readItem_94 : decode cX7_readItem 94 = .ok (.aload_n 1, 1) := by decide +kernel
theorem dX7_readItem_95 : decode cX7_readItem 95 = .ok (.iload_n 2, 1) := by decide +kernel
theorem dX7_readItem_96 : decode cX7_readItem 96 = .ok (.aload_n 0, 1) := by decide +kernel
theorem dX7_readItem_97 : decode cX7_readItem 97 = .ok (.getfield 15, 3) := by decide +kernel
theorem dX7_readItem_100 : decode cX7_readItem 100 = .ok (.iconst 0, 1) := by decide +kernel
theorem dX7_readItem_101 : decode cX7_readItem 101 = .ok (.iaload, 1) := by decide +kernel
theorem dX7_readItem_102 : decode cX7_readItem 102 = .ok (.aload_n 0, 1) := by decide +kernel
theorem dX7_readItem_103 : decode cX7_readItem 103 = .ok (.getfield 15, 3) := by decide +kernel
theorem dX7_readItem_106 : decode cX7_readItem 106 = .ok (.iconst 1, 1) := by decide +kernel
theorem dX7_readItem_107 : decode cX7_readItem 107 = .ok (.iaload, 1) := by decide +kernel
theorem dX7_readItem_108 : decode cX7_readItem 108 = .ok (.aload_n 0, 1) := by decide +kernel
theorem dX7_readItem_109 : decode cX7_readItem 109 = .ok (.getfield 15, 3) := by decide +kernel
theorem dX7_readItem_112 : decode cX7_readItem 112 = .ok (.iconst 2, 1) := by decide +kernel
theorem dX7_readItem_113 : decode cX7_readItem 113 = .ok (.iaload, 1) := by decide +kernel
theorem dX7_readItem_114 : decode cX7_readItem 114 = .ok (.invokevirtual 47, 3) := by decide +kernel
theorem dX7_readItem_117 : decode cX7_readItem 117 = .ok (.ireturn, 1) := by decide +kernel
theorem dX7_numbersOf_0 : decode cX7_numbersOf 0 = .ok (.iload_n 0, 1) := by decide +kernel
theorem dX7_numbersOf_1 : decode cX7_numbersOf 1 = .ok (.bipush 104, 2) := by decide +kernel
theorem dX7_numbersOf_3 : decode cX7_numbersOf 3 = .ok (.if_icmp .ne 5, 3) := by decide +kernel
theorem dX7_numbersOf_6 : decode cX7_numbersOf 6 = .ok (.iconst 3, 1) := by decide +kernel
theorem dX7_numbersOf_7 : decode cX7_numbersOf 7 = .ok (.ireturn, 1) := by decide +kernel
theorem dX7_numbersOf_8 : decode cX7_numbersOf 8 = .ok (.iload_n 0, 1) := by decide +kernel
theorem dX7_numbersOf_9 : decode cX7_numbersOf 9 = .ok (.bipush 114, 2) := by decide +kernel
theorem dX7_numbersOf_11 : decode cX7_numbersOf 11 = .ok (.if_icmp .eq 9, 3) := by decide +kernel
theorem dX7_numbersOf_14 : decode cX7_numbersOf 14 = .ok (.iload_n 0, 1) := by decide +kernel
theorem dX7_numbersOf_15 : decode cX7_numbersOf 15 = .ok (.bipush 112, 2) := by decide +kernel
theorem dX7_numbersOf_17 : decode cX7_numbersOf 17 = .ok (.if_icmp .ne 5, 3) := by decide +kernel
theorem dX7_numbersOf_20 : decode cX7_numbersOf 20 = .ok (.iconst 2, 1) := by decide +kernel
theorem dX7_numbersOf_21 : decode cX7_numbersOf 21 = .ok (.ireturn, 1) := by decide +kernel
theorem dX7_numbersOf_22 : decode cX7_numbersOf 22 = .ok (.iload_n 0, 1) := by decide +kernel
theorem dX7_numbersOf_23 : decode cX7_numbersOf 23 = .ok (.bipush 105, 2) := by decide +kernel
theorem dX7_numbersOf_25 : decode cX7_numbersOf 25 = .ok (.if_icmp .ne 7, 3) := by decide +kernel
theorem dX7_numbersOf_28 : decode cX7_numbersOf 28 = .ok (.iconst 1, 1) := by decide +kernel
theorem dX7_numbersOf_29 : decode cX7_numbersOf 29 = .ok (.goto 4, 3) := by decide +kernel
theorem dX7_numbersOf_32 : decode cX7_numbersOf 32 = .ok (.iconst 0, 1) := by decide +kernel
theorem dX7_numbersOf_33 : decode cX7_numbersOf 33 = .ok (.ireturn, 1) := by decide +kernel
set_option maxRecDepth 20000 in
theorem ggX7_readNumber_X7_letterHere : GoodIn wsX7_readNumber wsX7_letterHere := goodIn_r _ [10, 5, 11, 12, 16, 17, 18, 19] (by decide +kernel) (by decide +kernel)
set_option maxRecDepth 20000 in
theorem gX7_readNumber_X7_letterHere : GoodIn wsX7_readNumber (wsV RX7 35 RX7 yX7_letterHere wsX7_letterHere) := goodIn_app (goodIn_of _ (by decide +kernel)) ggX7_readNumber_X7_letterHere
set_option maxRecDepth 20000 in
theorem ggX7_readNumber_X7_isFigure : GoodIn wsX7_readNumber wsX7_isFigure := goodIn_r _ [15] (by decide +kernel) (by decide +kernel)
set_option maxRecDepth 20000 in
theorem gX7_readNumber_X7_isFigure : GoodIn wsX7_readNumber (va_wsS RX7 51 yX7_isFigure wsX7_isFigure) := goodIn_app (goodIn_of _ (by decide +kernel)) ggX7_readNumber_X7_isFigure
theorem dX7_readNumber_0 : decode cX7_readNumber 0 = .ok (.bipush (-4), 2) := by decide +kernel
theorem dX7_readNumber_2 : decode cX7_readNumber 2 = .ok (.istore_n 1, 1) := by decide +kernel
theorem dX7_readNumber_3 : decode cX7_readNumber 3 = .ok (.iconst 0, 1) := by decide +kernel
theorem dX7_readNumber_4 : decode cX7_readNumber 4 = .ok (.istore_n 2, 1) := by decide +kernel
theorem dX7_readNumber_5 : decode cX7_readNumber 5 = .ok (.iload_n 2, 1) := by decide +kernel
theorem dX7_readNumber_6 : decode cX7_readNumber 6 = .ok (.iconst 3, 1) := by decide +kernel
theorem dX7_readNumber_7 : decode cX7_readNumber 7 = .ok (.if_icmp .ge 46, 3) := by decide +kernel
theorem dX7_readNumber_10 : decode cX7_readNumber 10 = .ok (.aload_n 0, 1) := by decide +kernel
theorem dX7_readNumber_11 : decode cX7_readNumber 11 = .ok (.invokevirtual 35, 3) := by decide +kernel
theorem dX7_readNumber_14 : decode cX7_readNumber 14 = .ok (.invokestatic 51, 3) := by decide +kernel
theorem dX7_readNumber_17 : decode cX7_readNumber 17 = .ok (.ifCond .eq 36, 3) := by decide +kernel
theorem dX7_readNumber_20 : decode cX7_readNumber 20 = .ok (.iload_n 1, 1) := by decide +kernel
theorem dX7_readNumber_21 : decode cX7_readNumber 21 = .ok (.iconst 0, 1) := by decide +kernel
theorem dX7_readNumber_22 : decode cX7_readNumber 22 = .ok (.invokestatic 55, 3) := by decide +kernel
theorem dX7_readNumber_25 : decode cX7_readNumber 25 = .ok (.bipush 10, 2) := by decide +kernel
theorem dX7_readNumber_27 : decode cX7_readNumber 27 = .ok (.imul, 1) := by decide +kernel
theorem dX7_readNumber_28 : decode cX7_readNumber 28 = .ok (.aload_n 0, 1) := by decide +kernel
theorem dX7_readNumber_29 : decode cX7_readNumber 29 = .ok (.invokevirtual 35, 3) := by decide +kernel
theorem dX7_readNumber_32 : decode cX7_readNumber 32 = .ok (.bipush 48, 2) := by decide +kernel
theorem dX7_readNumber_34 : decode cX7_readNumber 34 = .ok (.isub, 1) := by decide +kernel
theorem dX7_readNumber_35 : decode cX7_readNumber 35 = .ok (.iadd, 1) := by decide +kernel
theorem dX7_readNumber_36 : decode cX7_readNumber 36 = .ok (.istore_n 1, 1) := by decide +kernel
theorem dX7_readNumber_37 : decode cX7_readNumber 37 = .ok (.aload_n 0, 1) := by decide +kernel
theorem dX7_readNumber_38 : decode cX7_readNumber 38 = .ok (.dup, 1) := by decide +kernel
theorem dX7_readNumber_39 : decode cX7_readNumber 39 = .ok (.getfield 28, 3) := by decide +kernel
theorem dX7_readNumber_42 : decode cX7_readNumber 42 = .ok (.iconst 1, 1) := by decide +kernel
theorem dX7_readNumber_43 : decode cX7_readNumber 43 = .ok (.iadd, 1) := by decide +kernel
theorem dX7_readNumber_44 : decode cX7_readNumber 44 = .ok (.putfield 28, 3) := by decide +kernel
theorem dX7_readNumber_47 : decode cX7_readNumber 47 = .ok (.iinc 2 1, 3) := by decide +kernel
theorem dX7_readNumber_50 : decode cX7_readNumber 50 = .ok (.goto (-45), 3) := by decide +kernel
theorem dX7_readNumber_53 : decode cX7_readNumber 53 = .ok (.iload_n 1, 1) := by decide +kernel
theorem dX7_readNumber_54 : decode cX7_readNumber 54 = .ok (.ireturn, 1) := by decide +kernel
theorem dX7_isFigure_0 : decode cX7_isFigure 0 = .ok (.iload_n 0, 1) := by decide +kernel
theorem dX7_isFigure_1 : decode cX7_isFigure 1 = .ok (.bipush 48, 2) := by decide +kernel
theorem dX7_isFigure_3 : decode cX7_isFigure 3 = .ok (.if_icmp .lt 13, 3) := by decide +kernel
theorem dX7_isFigure_6 : decode cX7_isFigure 6 = .ok (.iload_n 0, 1) := by decide +kernel
theorem dX7_isFigure_7 : decode cX7_isFigure 7 = .ok (.bipush 57, 2) := by decide +kernel
theorem dX7_isFigure_9 : decode cX7_isFigure 9 = .ok (.if_icmp .gt 7, 3) := by decide +kernel
theorem dX7_isFigure_12 : decode cX7_isFigure 12 = .ok (.iconst 1, 1) := by decide +kernel
theorem dX7_isFigure_13 : decode cX7_isFigure 13 = .ok (.goto 4, 3) := by decide +kernel
theorem dX7_isFigure_16 : decode cX7_isFigure 16 = .ok (.iconst 0, 1) := by decide +kernel
theorem dX7_isFigure_17 : decode cX7_isFigure 17 = .ok (.ireturn, 1) := by decide +kernel
theorem dX7_letterHere_0 : decode cX7_letterHere 0 = .ok (.aload_n 0, 1) := by decide +kernel
theorem dX7_letterHere_1 : decode cX7_letterHere 1 = .ok (.getfield 28, 3) := by decide +kernel
theorem dX7_letterHere_4 : decode cX7_letterHere 4 = .ok (.aload_n 0, 1) := by decide +kernel
theorem dX7_letterHere_5 : decode cX7_letterHere 5 = .ok (.getfield 19, 3) := by decide +kernel
theorem dX7_letterHere_8 : decode cX7_letterHere 8 = .ok (.if_icmp .ge 15, 3) := by decide +kernel
theorem dX7_letterHere_11 : decode cX7_letterHere 11 = .ok (.aload_n 0, 1) := by decide +kernel
theorem dX7_letterHere_12 : decode cX7_letterHere 12 = .ok (.getfield 9, 3) := by decide +kernel
theorem dX7_letterHere_15 : decode cX7_letterHere 15 = .ok (.aload_n 0, 1) := by decide +kernel
theorem dX7_letterHere_16 : decode cX7_letterHere 16 = .ok (.getfield 28, 3) := by decide +kernel
theorem dX7_letterHere_19 : decode cX7_letterHere 19 = .ok (.caload, 1) := by decide +kernel
theorem dX7_letterHere_20 : decode cX7_letterHere 20 = .ok (.goto 5, 3) := by decide +kernel
theorem dX7_letterHere_23 : decode cX7_letterHere 23 = .ok (.bipush 32, 2) := by decide +kernel
theorem dX7_letterHere_25 : decode cX7_letterHere 25 = .ok (.ireturn, 1) := by decide +kernel
set_option maxRecDepth 20000 in
theorem ggX8_init_X7_init : GoodIn wsX8_init wsX7_init := goodIn_r _ [34, 35, 2, 3, 36, 37, 38, 39, 220, 221, 222, 223] (by decide +kernel) (by decide +kernel)
set_option maxRecDepth 20000 in
theorem gX8_init_X7_init_n9 : GoodIn wsX8_init (wsX7_init) := ggX8_init_X7_init
set_option maxRecDepth 20000 in
theorem ggX8_init_X5_init : GoodIn wsX8_init wsX5_init := goodIn_r _ [41, 42, 2, 3, 38, 43, 44, 45, 232, 233, 234, 235, 236, 237, 238, 239, 240] (by decide +kernel) (by decide +kernel)
set_option maxRecDepth 20000 in
theorem gX8_init_X5_init_n18 : GoodIn wsX8_init (wsX5_init) := ggX8_init_X5_init
set_option maxRecDepth 20000 in
theorem ggX8_init_X4_init : GoodIn wsX8_init wsX4_init := goodIn_r _ [48, 49, 2, 3, 38, 50, 51, 241, 242] (by decide +kernel) (by decide +kernel)
set_option maxRecDepth 20000 in
theorem gX8_init_X4_init : GoodIn wsX8_init (wsX4_init) := ggX8_init_X4_init
set_option maxRecDepth 20000 in
theorem ggX8_init_X6_init : GoodIn wsX8_init wsX6_init := goodIn_r _ [54, 55, 2, 3, 38, 56, 57, 58, 30, 31, 59, 60, 61, 62, 63, 64, 65, 66, 243, 244, 245, 246, 247, 260, 261, 262, 263, 264, 265, 266, 267, 268] (by decide +kernel) (by decide +kernel)
set_option maxRecDepth 20000 in
theorem gX8_init_X6_init : GoodIn wsX8_init (wsX6_init) := ggX8_init_X6_init
set_option maxRecDepth 20000 in
theorem ggX8_init_X0_init : GoodIn wsX8_init wsX0_init := goodIn_r _ [69, 70, 2, 3, 38, 71, 72, 30, 31, 73, 74, 75, 76, 77, 78, 62, 63, 64, 65, 66, 248, 249, 250, 251, 252, 253, 254, 255, 256, 257, 260, 261, 262, 263, 264, 265, 266, 267, 268] (by decide +kernel) (by decide +kernel)
set_option maxRecDepth 20000 in
theorem gX8_init_X0_init : GoodIn wsX8_init (wsX0_init) := ggX8_init_X0_init
set_option maxRecDepth 20000 in
theorem ggX8_init_X2_init : GoodIn wsX8_init wsX2_init := goodIn_r _ [80, 81, 2, 3, 82, 83, 258, 259] (by decide +kernel) (by decide +kernel)
set_option maxRecDepth 20000 in
theorem gX8_init_X2_init_n53 : GoodIn wsX8_init (wsX2_init) := ggX8_init_X2_init
set_option maxRecDepth 20000 in
theorem ggX8_init_X3_init : GoodIn wsX8_init wsX3_init := goodIn_r _ [63, 64, 2, 3, 38, 65, 66, 260, 261, 262, 263, 264, 265, 266, 267, 268] (by decide +kernel) (by decide +kernel)
set_option maxRecDepth 20000 in
theorem gX8_init_X3_init_n60 : GoodIn wsX8_init (wsX3_init) := ggX8_init_X3_init
set_option maxRecDepth 20000 in
theorem ggX8_init_J0_length_8abf5 : GoodIn wsX8_init wsJ0_length_8abf5 := goodIn_r _ [88, 89, 90, 91, 92, 87, 93, 94, 95] (by decide +kernel) (by decide +kernel)
set_option maxRecDepth 20000 in
theorem gX8_init_J0_length_8abf5 : GoodIn wsX8_init (wsV RX8 67 RJ0 yJ0_length_8abf5 wsJ0_length_8abf5) := goodIn_app (goodIn_of _ (by decide +kernel)) ggX8_init_J0_length_8abf5
set_option maxRecDepth 20000 in
theorem ggX8_init_J0_charAt_5068e : GoodIn wsX8_init wsJ0_charAt_5068e := goodIn_r _ [99, 89, 100, 101, 102, 87, 103, 94, 95, 104, 105, 106, 107, 108, 109, 110, 111, 112, 113, 114, 115, 116, 117, 118, 119, 120, 121, 122, 123, 124, 125, 126, 127, 128, 129, 130, 131, 132] (by decide +kernel) (by decide +kernel)
set_option maxRecDepth 20000 in
theorem gX8_init_J0_charAt_5068e : GoodIn wsX8_init (wsV RX8 73 RJ0 yJ0_charAt_5068e wsJ0_charAt_5068e) := goodIn_app (goodIn_of _ (by decide +kernel)) ggX8_init_J0_charAt_5068e
set_option maxRecDepth 20000 in
theorem ggX8_init_X7_append : GoodIn wsX8_init wsX7_append := goodIn_r _ [136, 137, 37, 220, 221, 222, 223] (by decide +kernel) (by decide +kernel)
set_option maxRecDepth 20000 in
theorem gX8_init_X7_append : GoodIn wsX8_init (wsV RX8 77 RX7 yX7_append wsX7_append) := goodIn_app (goodIn_of _ (by decide +kernel)) ggX8_init_X7_append
set_option maxRecDepth 20000 in
theorem ggX8_init_X7_readInto : GoodIn wsX8_init wsX7_readInto := goodIn_r _ [141, 142, 137, 143, 144, 145, 10, 146, 147, 148, 149, 150, 151, 152, 153, 154, 155, 6, 156, 39, 157, 158, 159, 160, 37, 161, 162, 163, 164, 165, 166, 167, 168, 169, 170, 171, 172, 173, 174, 175, 176, 177, 178, 179, 180, 181, 182, 43, 44, 45, 183, 184, 185, 186, 187, 188, 189, 190, 191, 192, 193, 194, 195, 196, 197, 198, 199, 200, 201, 202, 203, 204, 205, 220, 221, 222, 223, 232, 233, 234, 235, 236, 237, 238, 239, 240] (by decide +kernel) (by decide +kernel)
set_option maxRecDepth 20000 in
theorem gX8_init_X7_readInto : GoodIn wsX8_init (wsV RX8 81 RX7 yX7_readInto wsX7_readInto) := goodIn_app (goodIn_of _ (by decide +kernel)) ggX8_init_X7_readInto
set_option maxRecDepth 20000 in
theorem ggX8_init_X7_clear : GoodIn wsX8_init wsX7_clear := goodIn_r _ [209, 137, 220, 221, 222, 223] (by decide +kernel) (by decide +kernel)
set_option maxRecDepth 20000 in
theorem gX8_init_X7_clear : GoodIn wsX8_init (wsV RX8 85 RX7 yX7_clear wsX7_clear) := goodIn_app (goodIn_of _ (by decide +kernel)) ggX8_init_X7_clear
set_option maxRecDepth 20000 in
theorem ggX8_init_X6_begin : GoodIn wsX8_init wsX6_begin := goodIn_r _ [213, 60, 214, 56, 215, 216, 217, 218, 219, 243, 244, 245, 246, 247, 232, 233, 234, 235, 236, 237, 238, 239, 240] (by decide +kernel) (by decide +kernel)
set_option maxRecDepth 20000 in
theorem gX8_init_X6_begin : GoodIn wsX8_init (wsV RX8 88 RX6 yX6_begin wsX6_begin) := goodIn_app (goodIn_of _ (by decide +kernel)) ggX8_init_X6_begin
theorem dX8_init_0 : decode cX8_init 0 = .ok (.aload_n 0, 1) := by decide +kernel
theorem dX8_init_1 : decode cX8_init 1 = .ok (.invokespecial 1, 3) := by decide +kernel
theorem dX8_init_4 : decode cX8_init 4 = .ok (.aload_n 0, 1) := by decide +kernel
theorem dX8_init_5 : decode cX8_init 5 = .ok (.new 7, 3) := by decide +kernel
theorem dX8_init_8 : decode cX8_init 8 = .ok (.dup, 1) := by decide +kernel
theorem dX8_init_9 : decode cX8_init 9 = .ok (.invokespecial 9, 3) := by decide +kernel
theorem dX8_init_12 : decode cX8_init 12 = .ok (.putfield 10, 3) := by decide +kernel
theorem dX8_init_15 : decode cX8_init 15 = .ok (.aload_n 0, 1) := by decide +kernel
theorem dX8_init_16 : decode cX8_init 16 = .ok (.new 16, 3) := by decide +kernel
theorem dX8_init_19 : decode cX8_init 19 = .ok (.dup, 1) := by decide +kernel
theorem dX8_init_20 : decode cX8_init 20 = .ok (.invokespecial 18, 3) := by decide +kernel
theorem dX8_init_23 : decode cX8_init 23 = .ok (.putfield 19, 3) := by decide +kernel
theorem dX8_init_26 : decode cX8_init 26 = .ok (.aload_n 0, 1) := by decide +kernel
theorem dX8_init_27 : decode cX8_init 27 = .ok (.new 16, 3) := by decide +kernel
theorem dX8_init_30 : decode cX8_init 30 = .ok (.dup, 1) := by decide +kernel
theorem dX8_init_31 : decode cX8_init 31 = .ok (.invokespecial 18, 3) := by decide +kernel
theorem dX8_init_34 : decode cX8_init 34 = .ok (.putfield 23, 3) := by decide +kernel
theorem dX8_init_37 : decode cX8_init 37 = .ok (.aload_n 0, 1) := by decide +kernel
theorem dX8_init_38 : decode cX8_init 38 = .ok (.new 26, 3) := by decide +kernel
theorem dX8_init_41 : decode cX8_init 41 = .ok (.dup, 1) := by decide +kernel
theorem dX8_init_42 : decode cX8_init 42 = .ok (.aload_n 0, 1) := by decide +kernel
theorem dX8_init_43 : decode cX8_init 43 = .ok (.getfield 19, 3) := by decide +kernel
theorem dX8_init_46 : decode cX8_init 46 = .ok (.invokespecial 28, 3) := by decide +kernel
theorem dX8_init_49 : decode cX8_init 49 = .ok (.putfield 31, 3) := by decide +kernel
theorem dX8_init_52 : decode cX8_init 52 = .ok (.aload_n 0, 1) := by decide +kernel
theorem dX8_init_53 : decode cX8_init 53 = .ok (.new 35, 3) := by decide +kernel
theorem dX8_init_56 : decode cX8_init 56 = .ok (.dup, 1) := by decide +kernel
theorem dX8_init_57 : decode cX8_init 57 = .ok (.aload_n 0, 1) := by decide +kernel
theorem dX8_init_58 : decode cX8_init 58 = .ok (.getfield 19, 3) := by decide +kernel
theorem dX8_init_61 : decode cX8_init 61 = .ok (.invokespecial 37, 3) := by decide +kernel
theorem dX8_init_64 : decode cX8_init 64 = .ok (.putfield 38, 3) := by decide +kernel
theorem dX8_init_67 : decode cX8_init 67 = .ok (.aload_n 0, 1) := by decide +kernel
theorem dX8_init_68 : decode cX8_init 68 = .ok (.new 42, 3) := by decide +kernel
theorem dX8_init_71 : decode cX8_init 71 = .ok (.dup, 1) := by decide +kernel
theorem dX8_init_72 : decode cX8_init 72 = .ok (.aload_n 0, 1) := by decide +kernel
theorem dX8_init_73 : decode cX8_init 73 = .ok (.getfield 19, 3) := by decide +kernel
theorem dX8_init_76 : decode cX8_init 76 = .ok (.aload_n 0, 1) := by decide +kernel
theorem dX8_init_77 : decode cX8_init 77 = .ok (.getfield 31, 3) := by decide +kernel
theorem dX8_init_80 : decode cX8_init 80 = .ok (.aload_n 0, 1) := by decide +kernel
theorem dX8_init_81 : decode cX8_init 81 = .ok (.getfield 38, 3) := by decide +kernel
theorem dX8_init_84 : decode cX8_init 84 = .ok (.invokespecial 44, 3) := by decide +kernel
theorem dX8_init_87 : decode cX8_init 87 = .ok (.putfield 47, 3) := by decide +kernel
theorem dX8_init_90 : decode cX8_init 90 = .ok (.aload_n 0, 1) := by decide +kernel
theorem dX8_init_91 : decode cX8_init 91 = .ok (.new 51, 3) := by decide +kernel
theorem dX8_init_94 : decode cX8_init 94 = .ok (.dup, 1) := by decide +kernel
theorem dX8_init_95 : decode cX8_init 95 = .ok (.invokespecial 53, 3) := by decide +kernel
theorem dX8_init_98 : decode cX8_init 98 = .ok (.putfield 54, 3) := by decide +kernel
theorem dX8_init_101 : decode cX8_init 101 = .ok (.aload_n 0, 1) := by decide +kernel
theorem dX8_init_102 : decode cX8_init 102 = .ok (.new 58, 3) := by decide +kernel
theorem dX8_init_105 : decode cX8_init 105 = .ok (.dup, 1) := by decide +kernel
theorem dX8_init_106 : decode cX8_init 106 = .ok (.invokespecial 60, 3) := by decide +kernel
theorem dX8_init_109 : decode cX8_init 109 = .ok (.putfield 61, 3) := by decide +kernel
theorem dX8_init_112 : decode cX8_init 112 = .ok (.iconst 0, 1) := by decide +kernel
theorem dX8_init_113 : decode cX8_init 113 = .ok (.istore_n 1, 1) := by decide +kernel
theorem dX8_init_114 : decode cX8_init 114 = .ok (.iload_n 1, 1) := by decide +kernel
theorem dX8_init_115 : decode cX8_init 115 = .ok (.ldc 65, 2) := by decide +kernel
theorem dX8_init_117 : decode cX8_init 117 = .ok (.invokevirtual 67, 3) := by decide +kernel
theorem dX8_init_120 : decode cX8_init 120 = .ok (.if_icmp .ge 23, 3) := by decide +kernel
theorem dX8_init_123 : decode cX8_init 123 = .ok (.aload_n 0, 1) := by decide +kernel
end
section
theorem dX8_init_124 : decode cX8_init 124 = .ok (.getfield 10, 3) := by decide +kernel
theorem dX8_init_127 : decode cX8_init 127 = .ok (.ldc 65, 2) := by decide +kernel
theorem dX8_init_129 : decode cX8_init 129 = .ok (.iload_n 1, 1) := by decide +kernel
theorem dX8_init_130 : decode cX8_init 130 = .ok (.invokevirtual 73, 3) := by decide +kernel
theorem dX8_init_133 : decode cX8_init 133 = .ok (.invokevirtual 77, 3) := by decide +kernel
theorem dX8_init_136 : decode cX8_init 136 = .ok (.pop, 1) := by decide +kernel
theorem dX8_init_137 : decode cX8_init 137 = .ok (.iinc 1 1, 3) := by decide +kernel
theorem dX8_init_140 : decode cX8_init 140 = .ok (.goto (-26), 3) := by decide +kernel
theorem dX8_init_143 : decode cX8_init 143 = .ok (.aload_n 0, 1) := by decide +kernel
theorem dX8_init_144 : decode cX8_init 144 = .ok (.getfield 10, 3) := by decide +kernel
theorem dX8_init_147 : decode cX8_init 147 = .ok (.aload_n 0, 1) := by decide +kernel
theorem dX8_init_148 : decode cX8_init 148 = .ok (.getfield 19, 3) := by decide +kernel
theorem dX8_init_151 : decode cX8_init 151 = .ok (.invokevirtual 81, 3) := by decide +kernel
theorem dX8_init_154 : decode cX8_init 154 = .ok (.pop, 1) := by decide +kernel
theorem dX8_init_155 : decode cX8_init 155 = .ok (.aload_n 0, 1) := by decide +kernel
theorem dX8_init_156 : decode cX8_init 156 = .ok (.getfield 10, 3) := by decide +kernel
theorem dX8_init_159 : decode cX8_init 159 = .ok (.invokevirtual 85, 3) := by decide +kernel
theorem dX8_init_162 : decode cX8_init 162 = .ok (.aload_n 0, 1) := by decide +kernel
theorem dX8_init_163 : decode cX8_init 163 = .ok (.getfield 38, 3) := by decide +kernel
theorem dX8_init_166 : decode cX8_init 166 = .ok (.invokevirtual 88, 3) := by decide +kernel
theorem dX8_init_169 : decode cX8_init 169 = .ok (.return_, 1) := by decide +kernel
set_option maxRecDepth 20000 in
theorem ggX8_write_X8_isWithin : GoodIn wsX8_write wsX8_isWithin := goodIn_r _ [6] (by decide +kernel) (by decide +kernel)
set_option maxRecDepth 20000 in
theorem gX8_write_X8_isWithin : GoodIn wsX8_write (va_wsS RX8 91 yX8_isWithin wsX8_isWithin) := goodIn_app (goodIn_of _ (by decide +kernel)) ggX8_write_X8_isWithin
set_option maxRecDepth 20000 in
theorem ggX8_write_X7_append : GoodIn wsX8_write wsX7_append := goodIn_r _ [11, 12, 13, 22, 23, 24, 25] (by decide +kernel) (by decide +kernel)
set_option maxRecDepth 20000 in
theorem gX8_write_X7_append : GoodIn wsX8_write (wsV RX8 77 RX7 yX7_append wsX7_append) := goodIn_app (goodIn_of _ (by decide +kernel)) ggX8_write_X7_append
theorem dX8_write_0 : decode cX8_write 0 = .ok (.iload_n 1, 1) := by decide +kernel
theorem dX8_write_1 : decode cX8_write 1 = .ok (.bipush 32, 2) := by decide +kernel
theorem dX8_write_3 : decode cX8_write 3 = .ok (.bipush 126, 2) := by decide +kernel
theorem dX8_write_5 : decode cX8_write 5 = .ok (.invokestatic 91, 3) := by decide +kernel
theorem dX8_write_8 : decode cX8_write 8 = .ok (.ifCond .ne 5, 3) := by decide +kernel
theorem dX8_write_11 : decode cX8_write 11 = .ok (.iconst (-1), 1) := by decide +kernel
theorem dX8_write_12 : decode cX8_write 12 = .ok (.ireturn, 1) := by decide +kernel
theorem dX8_write_13 : decode cX8_write 13 = .ok (.aload_n 0, 1) := by decide +kernel
theorem dX8_write_14 : decode cX8_write 14 = .ok (.getfield 10, 3) := by decide +kernel
theorem dX8_write_17 : decode cX8_write 17 = .ok (.iload_n 1, 1) := by decide +kernel
theorem dX8_write_18 : decode cX8_write 18 = .ok (.i2c, 1) := by decide +kernel
theorem dX8_write_19 : decode cX8_write 19 = .ok (.invokevirtual 77, 3) := by decide +kernel
theorem dX8_write_22 : decode cX8_write 22 = .ok (.ifCond .eq 13, 3) := by decide +kernel
theorem dX8_write_25 : decode cX8_write 25 = .ok (.aload_n 0, 1) := by decide +kernel
theorem dX8_write_26 : decode cX8_write 26 = .ok (.getfield 10, 3) := by decide +kernel
theorem dX8_write_29 : decode cX8_write 29 = .ok (.getfield 95, 3) := by decide +kernel
theorem dX8_write_32 : decode cX8_write 32 = .ok (.goto 5, 3) := by decide +kernel
theorem dX8_write_35 : decode cX8_write 35 = .ok (.bipush (-3), 2) := by decide +kernel
theorem dX8_write_37 : decode cX8_write 37 = .ok (.ireturn, 1) := by decide +kernel
set_option maxRecDepth 20000 in
theorem ggX8_wipe_X7_clear : GoodIn wsX8_wipe wsX7_clear := goodIn_r _ [7, 8, 17, 18, 19, 20] (by decide +kernel) (by decide +kernel)
set_option maxRecDepth 20000 in
theorem gX8_wipe_X7_clear : GoodIn wsX8_wipe (wsV RX8 85 RX7 yX7_clear wsX7_clear) := goodIn_app (goodIn_of _ (by decide +kernel)) ggX8_wipe_X7_clear
theorem dX8_wipe_0 : decode cX8_wipe 0 = .ok (.aload_n 0, 1) := by decide +kernel
theorem dX8_wipe_1 : decode cX8_wipe 1 = .ok (.getfield 10, 3) := by decide +kernel
theorem dX8_wipe_4 : decode cX8_wipe 4 = .ok (.getfield 95, 3) := by decide +kernel
theorem dX8_wipe_7 : decode cX8_wipe 7 = .ok (.istore_n 1, 1) := by decide +kernel
theorem dX8_wipe_8 : decode cX8_wipe 8 = .ok (.aload_n 0, 1) := by decide +kernel
theorem dX8_wipe_9 : decode cX8_wipe 9 = .ok (.getfield 10, 3) := by decide +kernel
theorem dX8_wipe_12 : decode cX8_wipe 12 = .ok (.invokevirtual 85, 3) := by decide +kernel
theorem dX8_wipe_15 : decode cX8_wipe 15 = .ok (.iload_n 1, 1) := by decide +kernel
theorem dX8_wipe_16 : decode cX8_wipe 16 = .ok (.ireturn, 1) := by decide +kernel
set_option maxRecDepth 20000 in
theorem ggX8_fault_X7_readInto : GoodIn wsX8_fault wsX7_readInto := goodIn_r _ [7, 8, 9, 10, 11, 12, 13, 14, 15, 16, 17, 18, 19, 20, 21, 22, 23, 6, 24, 25, 26, 27, 28, 29, 30, 31, 32, 33, 34, 35, 36, 37, 38, 39, 40, 41, 42, 43, 44, 45, 46, 47, 48, 49, 50, 51, 52, 53, 54, 55, 56, 57, 58, 59, 60, 61, 62, 63, 64, 65, 66, 67, 68, 69, 70, 71, 72, 73, 74, 75, 76, 77, 78, 87, 88, 89, 90, 91, 92, 93, 94, 95, 96, 97, 98, 99] (by decide +kernel) (by decide +kernel)
set_option maxRecDepth 20000 in
theorem gX8_fault_X7_readInto : GoodIn wsX8_fault (wsV RX8 81 RX7 yX7_readInto wsX7_readInto) := goodIn_app (goodIn_of _ (by decide +kernel)) ggX8_fault_X7_readInto
theorem dX8_fault_0 : decode cX8_fault 0 = .ok (.aload_n 0, 1) := by decide +kernel
theorem dX8_fault_1 : decode cX8_fault 1 = .ok (.getfield 10, 3) := by decide +kernel
theorem dX8_fault_4 : decode cX8_fault 4 = .ok (.aload_n 0, 1) := by decide +kernel
theorem dX8_fault_5 : decode cX8_fault 5 = .ok (.getfield 23, 3) := by decide +kernel
theorem dX8_fault_8 : decode cX8_fault 8 = .ok (.invokevirtual 81, 3) := by decide +kernel
theorem dX8_fault_11 : decode cX8_fault 11 = .ok (.ireturn, 1) := by decide +kernel
set_option maxRecDepth 20000 in
theorem ggX8_lay_X7_readInto : GoodIn wsX8_lay wsX7_readInto := goodIn_r _ [11, 12, 13, 14, 15, 16, 17, 18, 19, 20, 21, 22, 23, 24, 25, 26, 27, 10, 28, 29, 30, 31, 32, 33, 34, 35, 36, 37, 38, 39, 40, 41, 42, 43, 44, 45, 46, 47, 48, 49, 50, 51, 52, 53, 54, 55, 56, 57, 58, 59, 60, 61, 62, 63, 64, 65, 66, 67, 68, 69, 70, 71, 72, 73, 74, 75, 76, 77, 78, 79, 80, 81, 82, 124, 125, 126, 127, 115, 116, 117, 118, 119, 120, 121, 122, 123] (by decide +kernel) (by decide +kernel)
set_option maxRecDepth 20000 in
theorem gX8_lay_X7_readInto : GoodIn wsX8_lay (wsV RX8 81 RX7 yX7_readInto wsX7_readInto) := goodIn_app (goodIn_of _ (by decide +kernel)) ggX8_lay_X7_readInto
set_option maxRecDepth 20000 in
theorem ggX8_lay_X5_copy : GoodIn wsX8_lay wsX5_copy := goodIn_r _ [86, 57, 87, 88, 89, 90, 58, 59, 19, 20, 21, 22, 23, 24, 115, 116, 117, 118, 119, 120, 121, 122, 123] (by decide +kernel) (by decide +kernel)
set_option maxRecDepth 20000 in
theorem gX8_lay_X5_copy : GoodIn wsX8_lay (wsV RX8 102 RX5 yX5_copy wsX5_copy) := goodIn_app (goodIn_of _ (by decide +kernel)) ggX8_lay_X5_copy
set_option maxRecDepth 20000 in
theorem ggX8_lay_X6_begin : GoodIn wsX8_lay wsX6_begin := goodIn_r _ [95, 96, 97, 98, 99, 88, 89, 90, 100, 128, 129, 130, 131, 132, 115, 116, 117, 118, 119, 120, 121, 122, 123] (by decide +kernel) (by decide +kernel)
set_option maxRecDepth 20000 in
theorem gX8_lay_X6_begin : GoodIn wsX8_lay (wsV RX8 88 RX6 yX6_begin wsX6_begin) := goodIn_app (goodIn_of _ (by decide +kernel)) ggX8_lay_X6_begin
set_option maxRecDepth 20000 in
theorem ggX8_lay_X2_clear : GoodIn wsX8_lay wsX2_clear := goodIn_r _ [105, 106, 133, 134] (by decide +kernel) (by decide +kernel)
set_option maxRecDepth 20000 in
theorem gX8_lay_X2_clear : GoodIn wsX8_lay (wsV RX8 105 RX2 yX2_clear wsX2_clear) := goodIn_app (goodIn_of _ (by decide +kernel)) ggX8_lay_X2_clear
theorem dX8_lay_0 : decode cX8_lay 0 = .ok (.aload_n 0, 1) := by decide +kernel
theorem dX8_lay_1 : decode cX8_lay 1 = .ok (.getfield 10, 3) := by decide +kernel
theorem dX8_lay_4 : decode cX8_lay 4 = .ok (.aload_n 0, 1) := by decide +kernel
theorem dX8_lay_5 : decode cX8_lay 5 = .ok (.getfield 23, 3) := by decide +kernel
theorem dX8_lay_8 : decode cX8_lay 8 = .ok (.invokevirtual 81, 3) := by decide +kernel
theorem dX8_lay_11 : decode cX8_lay 11 = .ok (.bipush (-4), 2) := by decide +kernel
theorem dX8_lay_13 : decode cX8_lay 13 = .ok (.if_icmp .ne 13, 3) := by decide +kernel
theorem dX8_lay_16 : decode cX8_lay 16 = .ok (.aload_n 0, 1) := by decide +kernel
theorem dX8_lay_17 : decode cX8_lay 17 = .ok (.getfield 23, 3) := by decide +kernel
theorem dX8_lay_20 : decode cX8_lay 20 = .ok (.getfield 99, 3) := by decide +kernel
theorem dX8_lay_23 : decode cX8_lay 23 = .ok (.ifCond .ne 6, 3) := by decide +kernel
theorem dX8_lay_26 : decode cX8_lay 26 = .ok (.bipush (-2), 2) := by decide +kernel
theorem dX8_lay_28 : decode cX8_lay 28 = .ok (.ireturn, 1) := by decide +kernel
theorem dX8_lay_29 : decode cX8_lay 29 = .ok (.aload_n 0, 1) := by decide +kernel
theorem dX8_lay_30 : decode cX8_lay 30 = .ok (.getfield 19, 3) := by decide +kernel
theorem dX8_lay_33 : decode cX8_lay 33 = .ok (.aload_n 0, 1) := by decide +kernel
theorem dX8_lay_34 : decode cX8_lay 34 = .ok (.getfield 23, 3) := by decide +kernel
theorem dX8_lay_37 : decode cX8_lay 37 = .ok (.invokevirtual 102, 3) := by decide +kernel
theorem dX8_lay_40 : decode cX8_lay 40 = .ok (.aload_n 0, 1) := by decide +kernel
theorem dX8_lay_41 : decode cX8_lay 41 = .ok (.getfield 38, 3) := by decide +kernel
theorem dX8_lay_44 : decode cX8_lay 44 = .ok (.invokevirtual 88, 3) := by decide +kernel
theorem dX8_lay_47 : decode cX8_lay 47 = .ok (.aload_n 0, 1) := by decide +kernel
theorem dX8_lay_48 : decode cX8_lay 48 = .ok (.getfield 54, 3) := by decide +kernel
theorem dX8_lay_51 : decode cX8_lay 51 = .ok (.invokevirtual 105, 3) := by decide +kernel
theorem dX8_lay_54 : decode cX8_lay 54 = .ok (.aload_n 0, 1) := by decide +kernel
theorem dX8_lay_55 : decode cX8_lay 55 = .ok (.getfield 19, 3) := by decide +kernel
theorem dX8_lay_58 : decode cX8_lay 58 = .ok (.getfield 99, 3) := by decide +kernel
theorem dX8_lay_61 : decode cX8_lay 61 = .ok (.ireturn, 1) := by decide +kernel
set_option maxRecDepth 20000 in
theorem ggX8_course_X8_isWithin : GoodIn wsX8_course wsX8_isWithin := goodIn_r _ [14] (by decide +kernel) (by decide +kernel)
set_option maxRecDepth 20000 in
theorem gX8_course_X8_isWithin : GoodIn wsX8_course (va_wsS RX8 91 yX8_isWithin wsX8_isWithin) := goodIn_app (goodIn_of _ (by decide +kernel)) ggX8_course_X8_isWithin
set_option maxRecDepth 20000 in
theorem ggX8_course_X8_fillTrial : GoodIn wsX8_course wsX8_fillTrial := goodIn_r _ [18, 5, 19, 20, 1, 21, 22, 23, 24, 25, 26, 27, 28, 29, 30, 31, 32, 33, 34, 35, 36, 37, 38, 39, 40, 41, 42, 43, 44, 4, 45, 46, 47, 48, 49, 50, 51, 52, 53, 54, 55, 56, 57, 58, 59, 60, 61, 62, 63, 64, 65, 66, 67, 68, 69, 70, 71, 72, 73, 74, 75, 76, 77, 78, 79, 80, 81, 82, 83, 84, 85, 86, 87, 88, 89, 90, 91, 92, 93, 94, 95, 96, 97, 98, 99, 100, 101, 102, 103, 104, 105, 106, 107, 108, 109, 110, 111, 112, 113, 114, 115, 116, 117, 118, 119, 120, 121, 122, 123, 124, 125, 126, 127, 128, 129, 130, 131, 132, 133, 134, 135, 136, 137, 169, 170, 171, 172, 173, 174, 175, 176, 177, 178, 179, 180, 181, 182, 183, 184, 185, 190, 191, 192, 193, 194, 195, 196, 197, 198, 199, 200, 201, 202, 203, 204, 205] (by decide +kernel) (by decide +kernel)
set_option maxRecDepth 20000 in
theorem gX8_course_X8_fillTrial : GoodIn wsX8_course (wsV RX8 106 RX8 yX8_fillTrial wsX8_fillTrial) := goodIn_app (goodIn_of _ (by decide +kernel)) ggX8_course_X8_fillTrial
set_option maxRecDepth 20000 in
theorem ggX8_course_X3_init : GoodIn wsX8_course wsX3_init := goodIn_r _ [139, 140, 141, 142, 143, 107, 91, 177, 178, 179, 180, 181, 182, 183, 184, 185] (by decide +kernel) (by decide +kernel)
set_option maxRecDepth 20000 in
theorem gX8_course_X3_init_n60 : GoodIn wsX8_course (wsX3_init) := ggX8_course_X3_init
set_option maxRecDepth 20000 in
theorem ggX8_course_X6_push : GoodIn wsX8_course wsX6_push := goodIn_r _ [147, 27, 28, 148, 149, 150, 25, 151, 152, 153, 190, 191, 192, 193, 194, 177, 178, 179, 180, 181, 182, 183, 184, 185] (by decide +kernel) (by decide +kernel)
set_option maxRecDepth 20000 in
theorem gX8_course_X6_push : GoodIn wsX8_course (wsV RX8 110 RX6 yX6_push wsX6_push) := goodIn_app (goodIn_of _ (by decide +kernel)) ggX8_course_X6_push
set_option maxRecDepth 20000 in
theorem ggX8_course_X1_init : GoodIn wsX8_course wsX1_init := goodIn_r _ [156, 157, 141, 142, 158, 159, 160, 161, 186, 187, 188, 189] (by decide +kernel) (by decide +kernel)
set_option maxRecDepth 20000 in
theorem gX8_course_X1_init : GoodIn wsX8_course (wsX1_init) := ggX8_course_X1_init
set_option maxRecDepth 20000 in
theorem ggX8_course_X2_add : GoodIn wsX8_course wsX2_add := goodIn_r _ [166, 167, 168, 206, 207] (by decide +kernel) (by decide +kernel)
set_option maxRecDepth 20000 in
theorem gX8_course_X2_add : GoodIn wsX8_course (wsV RX8 119 RX2 yX2_add wsX2_add) := goodIn_app (goodIn_of _ (by decide +kernel)) ggX8_course_X2_add
theorem dX8_course_0 : decode cX8_course 0 = .ok (.iload_n 1, 1) := by decide +kernel
theorem dX8_course_1 : decode cX8_course 1 = .ok (.bipush 20, 2) := by decide +kernel
theorem dX8_course_3 : decode cX8_course 3 = .ok (.bipush 60, 2) := by decide +kernel
theorem dX8_course_5 : decode cX8_course 5 = .ok (.invokestatic 91, 3) := by decide +kernel
theorem dX8_course_8 : decode cX8_course 8 = .ok (.ifCond .ne 5, 3) := by decide +kernel
theorem dX8_course_11 : decode cX8_course 11 = .ok (.iconst (-1), 1) := by decide +kernel
theorem dX8_course_12 : decode cX8_course 12 = .ok (.ireturn, 1) := by decide +kernel
theorem dX8_course_13 : decode cX8_course 13 = .ok (.aload_n 0, 1) := by decide +kernel
theorem dX8_course_14 : decode cX8_course 14 = .ok (.iload_n 1, 1) := by decide +kernel
theorem dX8_course_15 : decode cX8_course 15 = .ok (.invokevirtual 106, 3) := by decide +kernel
theorem dX8_course_18 : decode cX8_course 18 = .ok (.ifCond .ne 6, 3) := by decide +kernel
theorem dX8_course_21 : decode cX8_course 21 = .ok (.bipush (-2), 2) := by decide +kernel
theorem dX8_course_23 : decode cX8_course 23 = .ok (.ireturn, 1) := by decide +kernel
theorem dX8_course_24 : decode cX8_course 24 = .ok (.aload_n 0, 1) := by decide +kernel
theorem dX8_course_25 : decode cX8_course 25 = .ok (.getfield 61, 3) := by decide +kernel
theorem dX8_course_28 : decode cX8_course 28 = .ok (.astore_n 2, 1) := by decide +kernel
theorem dX8_course_29 : decode cX8_course 29 = .ok (.aload_n 0, 1) := by decide +kernel
theorem dX8_course_30 : decode cX8_course 30 = .ok (.new 58, 3) := by decide +kernel
theorem dX8_course_33 : decode cX8_course 33 = .ok (.dup, 1) := by decide +kernel
theorem dX8_course_34 : decode cX8_course 34 = .ok (.invokespecial 60, 3) := by decide +kernel
theorem dX8_course_37 : decode cX8_course 37 = .ok (.putfield 61, 3) := by decide +kernel
theorem dX8_course_40 : decode cX8_course 40 = .ok (.aload_n 0, 1) := by decide +kernel
theorem dX8_course_41 : decode cX8_course 41 = .ok (.getfield 38, 3) := by decide +kernel
theorem dX8_course_44 : decode cX8_course 44 = .ok (.aload_n 2, 1) := by decide +kernel
theorem dX8_course_45 : decode cX8_course 45 = .ok (.invokevirtual 110, 3) := by decide +kernel
theorem dX8_course_48 : decode cX8_course 48 = .ok (.aload_n 0, 1) := by decide +kernel
theorem dX8_course_49 : decode cX8_course 49 = .ok (.getfield 54, 3) := by decide +kernel
theorem dX8_course_52 : decode cX8_course 52 = .ok (.new 114, 3) := by decide +kernel
theorem dX8_course_55 : decode cX8_course 55 = .ok (.dup, 1) := by decide +kernel
theorem dX8_course_56 : decode cX8_course 56 = .ok (.iconst 0, 1) := by decide +kernel
theorem dX8_course_57 : decode cX8_course 57 = .ok (.aload_n 2, 1) := by decide +kernel
theorem dX8_course_58 : decode cX8_course 58 = .ok (.iconst 0, 1) := by decide +kernel
theorem dX8_course_59 : decode cX8_course 59 = .ok (.iconst 0, 1) := by decide +kernel
theorem dX8_course_60 : decode cX8_course 60 = .ok (.invokespecial 116, 3) := by decide +kernel
theorem dX8_course_63 : decode cX8_course 63 = .ok (.invokevirtual 119, 3) := by decide +kernel
theorem dX8_course_66 : decode cX8_course 66 = .ok (.aload_n 2, 1) := by decide +kernel
theorem dX8_course_67 : decode cX8_course 67 = .ok (.getfield 123, 3) := by decide +kernel
theorem dX8_course_70 : decode cX8_course 70 = .ok (.ireturn, 1) := by decide +kernel
set_option maxRecDepth 20000 in
theorem ggX8_up_X6_pop : GoodIn wsX8_up wsX6_pop := goodIn_r _ [11, 12, 13, 14, 15, 16, 10, 17, 18, 19, 20, 21, 22, 23, 24, 50, 51, 52, 53, 54, 59, 60, 61, 62, 63, 64, 65, 66, 67] (by decide +kernel) (by decide +kernel)
set_option maxRecDepth 20000 in
theorem gX8_up_X6_pop : GoodIn wsX8_up (wsV RX8 125 RX6 yX6_pop wsX6_pop) := goodIn_app (goodIn_of _ (by decide +kernel)) ggX8_up_X6_pop
set_option maxRecDepth 20000 in
theorem ggX8_up_X1_init : GoodIn wsX8_up wsX1_init := goodIn_r _ [27, 28, 29, 30, 31, 32, 33, 34, 55, 56, 57, 58] (by decide +kernel) (by decide +kernel)
set_option maxRecDepth 20000 in
theorem gX8_up_X1_init : GoodIn wsX8_up (wsX1_init) := ggX8_up_X1_init
set_option maxRecDepth 20000 in
theorem ggX8_up_X2_add : GoodIn wsX8_up wsX2_add := goodIn_r _ [39, 40, 41, 68, 69] (by decide +kernel) (by decide +kernel)
set_option maxRecDepth 20000 in
theorem gX8_up_X2_add : GoodIn wsX8_up (wsV RX8 119 RX2 yX2_add wsX2_add) := goodIn_app (goodIn_of _ (by decide +kernel)) ggX8_up_X2_add
theorem dX8_up_0 : decode cX8_up 0 = .ok (.aload_n 0, 1) := by decide +kernel
theorem dX8_up_1 : decode cX8_up 1 = .ok (.getfield 38, 3) := by decide +kernel
theorem dX8_up_4 : decode cX8_up 4 = .ok (.getfield 124, 3) := by decide +kernel
theorem dX8_up_7 : decode cX8_up 7 = .ok (.ifCond .ne 6, 3) := by decide +kernel
theorem dX8_up_10 : decode cX8_up 10 = .ok (.bipush (-2), 2) := by decide +kernel
theorem dX8_up_12 : decode cX8_up 12 = .ok (.ireturn, 1) := by decide +kernel
theorem dX8_up_13 : decode cX8_up 13 = .ok (.aload_n 0, 1) := by decide +kernel
theorem dX8_up_14 : decode cX8_up 14 = .ok (.getfield 38, 3) := by decide +kernel
theorem dX8_up_17 : decode cX8_up 17 = .ok (.invokevirtual 125, 3) := by decide +kernel
theorem dX8_up_20 : decode cX8_up 20 = .ok (.astore_n 1, 1) := by decide +kernel
theorem dX8_up_21 : decode cX8_up 21 = .ok (.aload_n 0, 1) := by decide +kernel
theorem dX8_up_22 : decode cX8_up 22 = .ok (.getfield 54, 3) := by decide +kernel
theorem dX8_up_25 : decode cX8_up 25 = .ok (.new 114, 3) := by decide +kernel
theorem dX8_up_28 : decode cX8_up 28 = .ok (.dup, 1) := by decide +kernel
theorem dX8_up_29 : decode cX8_up 29 = .ok (.iconst 1, 1) := by decide +kernel
theorem dX8_up_30 : decode cX8_up 30 = .ok (.aload_n 1, 1) := by decide +kernel
theorem dX8_up_31 : decode cX8_up 31 = .ok (.iconst 0, 1) := by decide +kernel
theorem dX8_up_32 : decode cX8_up 32 = .ok (.iconst 0, 1) := by decide +kernel
theorem dX8_up_33 : decode cX8_up 33 = .ok (.invokespecial 116, 3) := by decide +kernel
theorem dX8_up_36 : decode cX8_up 36 = .ok (.invokevirtual 119, 3) := by decide +kernel
theorem dX8_up_39 : decode cX8_up 39 = .ok (.aload_n 0, 1) := by decide +kernel
theorem dX8_up_40 : decode cX8_up 40 = .ok (.getfield 38, 3) := by decide +kernel
theorem dX8_up_43 : decode cX8_up 43 = .ok (.getfield 124, 3) := by decide +kernel
theorem dX8_up_46 : decode cX8_up 46 = .ok (.ireturn, 1) := by decide +kernel
set_option maxRecDepth 20000 in
theorem ggX8_bring_X8_isHeap : GoodIn wsX8_bring wsX8_isHeap := goodIn_r _ [12, 13, 14, 15, 16, 11, 17, 35, 36, 37, 38, 39, 40, 41, 42, 52, 53, 54, 55, 56, 57, 58, 59, 60] (by decide +kernel) (by decide +kernel)
set_option maxRecDepth 20000 in
theorem gX8_bring_X8_isHeap : GoodIn wsX8_bring (wsV RX8 129 RX8 yX8_isHeap wsX8_isHeap) := goodIn_app (goodIn_of _ (by decide +kernel)) ggX8_bring_X8_isHeap
set_option maxRecDepth 20000 in
theorem ggX8_bring_X8_isWithin : GoodIn wsX8_bring wsX8_isWithin := goodIn_r _ [17] (by decide +kernel) (by decide +kernel)
set_option maxRecDepth 20000 in
theorem gX8_bring_X8_isWithin : GoodIn wsX8_bring (va_wsS RX8 91 yX8_isWithin wsX8_isWithin) := goodIn_app (goodIn_of _ (by decide +kernel)) ggX8_bring_X8_isWithin
set_option maxRecDepth 20000 in
theorem ggX8_bring_X1_init : GoodIn wsX8_bring wsX1_init := goodIn_r _ [20, 21, 22, 23, 24, 25, 26, 27, 48, 49, 50, 51] (by decide +kernel) (by decide +kernel)
set_option maxRecDepth 20000 in
theorem gX8_bring_X1_init : GoodIn wsX8_bring (wsX1_init) := ggX8_bring_X1_init
set_option maxRecDepth 20000 in
theorem ggX8_bring_X2_add : GoodIn wsX8_bring wsX2_add := goodIn_r _ [32, 33, 34, 61, 62] (by decide +kernel) (by decide +kernel)
set_option maxRecDepth 20000 in
theorem gX8_bring_X2_add : GoodIn wsX8_bring (wsV RX8 119 RX2 yX2_add wsX2_add) := goodIn_app (goodIn_of _ (by decide +kernel)) ggX8_bring_X2_add
theorem dX8_bring_0 : decode cX8_bring 0 = .ok (.aload_n 0, 1) := by decide +kernel
theorem dX8_bring_1 : decode cX8_bring 1 = .ok (.iload_n 1, 1) := by decide +kernel
theorem dX8_bring_2 : decode cX8_bring 2 = .ok (.invokevirtual 129, 3) := by decide +kernel
theorem dX8_bring_5 : decode cX8_bring 5 = .ok (.ifCond .eq 13, 3) := by decide +kernel
theorem dX8_bring_8 : decode cX8_bring 8 = .ok (.iload_n 2, 1) := by decide +kernel
theorem dX8_bring_9 : decode cX8_bring 9 = .ok (.iconst 1, 1) := by decide +kernel
theorem dX8_bring_10 : decode cX8_bring 10 = .ok (.bipush 99, 2) := by decide +kernel
theorem dX8_bring_12 : decode cX8_bring 12 = .ok (.invokestatic 91, 3) := by decide +kernel
theorem dX8_bring_15 : decode cX8_bring 15 = .ok (.ifCond .ne 5, 3) := by decide +kernel
theorem dX8_bring_18 : decode cX8_bring 18 = .ok (.iconst (-1), 1) := by decide +kernel
theorem dX8_bring_19 : decode cX8_bring 19 = .ok (.ireturn, 1) := by decide +kernel
theorem dX8_bring_20 : decode cX8_bring 20 = .ok (.aload_n 0, 1) := by decide +kernel
theorem dX8_bring_21 : decode cX8_bring 21 = .ok (.getfield 38, 3) := by decide +kernel
theorem dX8_bring_24 : decode cX8_bring 24 = .ok (.getfield 132, 3) := by decide +kernel
theorem dX8_bring_27 : decode cX8_bring 27 = .ok (.iload_n 1, 1) := by decide +kernel
theorem dX8_bring_28 : decode cX8_bring 28 = .ok (.iaload, 1) := by decide +kernel
theorem dX8_bring_29 : decode cX8_bring 29 = .ok (.iload_n 2, 1) := by decide +kernel
theorem dX8_bring_30 : decode cX8_bring 30 = .ok (.iadd, 1) := by decide +kernel
theorem dX8_bring_31 : decode cX8_bring 31 = .ok (.sipush 999, 3) := by decide +kernel
theorem dX8_bring_34 : decode cX8_bring 34 = .ok (.if_icmp .le 6, 3) := by decide +kernel
theorem dX8_bring_37 : decode cX8_bring 37 = .ok (.bipush (-3), 2) := by decide +kernel
theorem dX8_bring_39 : decode cX8_bring 39 = .ok (.ireturn, 1) := by decide +kernel
theorem dX8_bring_40 : decode cX8_bring 40 = .ok (.aload_n 0, 1) := by decide +kernel
theorem dX8_bring_41 : decode cX8_bring 41 = .ok (.getfield 38, 3) := by decide +kernel
theorem dX8_bring_44 : decode cX8_bring 44 = .ok (.getfield 132, 3) := by decide +kernel
theorem dX8_bring_47 : decode cX8_bring 47 = .ok (.iload_n 1, 1) := by decide +kernel
theorem dX8_bring_48 : decode cX8_bring 48 = .ok (.dup2, 1) := by decide +kernel
theorem dX8_bring_49 : decode cX8_bring 49 = .ok (.iaload, 1) := by decide +kernel
theorem dX8_bring_50 : decode cX8_bring 50 = .ok (.iload_n 2, 1) := by decide +kernel
theorem dX8_bring_51 : decode cX8_bring 51 = .ok (.iadd, 1) := by decide +kernel
theorem dX8_bring_52 : decode cX8_bring 52 = .ok (.iastore, 1) := by decide +kernel
theorem dX8_bring_53 : decode cX8_bring 53 = .ok (.aload_n 0, 1) := by decide +kernel
theorem dX8_bring_54 : decode cX8_bring 54 = .ok (.getfield 54, 3) := by decide +kernel
theorem dX8_bring_57 : decode cX8_bring 57 = .ok (.new 114, 3) := by decide +kernel
theorem dX8_bring_60 : decode cX8_bring 60 = .ok (.dup, 1) := by decide +kernel
theorem dX8_bring_61 : decode cX8_bring 61 = .ok (.iconst 2, 1) := by decide +kernel
theorem dX8_bring_62 : decode cX8_bring 62 = .ok (.aload_n 0, 1) := by decide +kernel
theorem dX8_bring_63 : decode cX8_bring 63 = .ok (.getfield 38, 3) := by decide +kernel
theorem dX8_bring_66 : decode cX8_bring 66 = .ok (.getfield 136, 3) := by decide +kernel
theorem dX8_bring_69 : decode cX8_bring 69 = .ok (.iload_n 1, 1) := by decide +kernel
theorem dX8_bring_70 : decode cX8_bring 70 = .ok (.iload_n 2, 1) := by decide +kernel
theorem dX8_bring_71 : decode cX8_bring 71 = .ok (.invokespecial 116, 3) := by decide +kernel
theorem dX8_bring_74 : decode cX8_bring 74 = .ok (.invokevirtual 119, 3) := by decide +kernel
theorem dX8_bring_77 : decode cX8_bring 77 = .ok (.aload_n 0, 1) := by decide +kernel
theorem dX8_bring_78 : decode cX8_bring 78 = .ok (.getfield 38, 3) := by decide +kernel
theorem dX8_bring_81 : decode cX8_bring 81 = .ok (.getfield 132, 3) := by decide +kernel
theorem dX8_bring_84 : decode cX8_bring 84 = .ok (.iload_n 1, 1) := by decide +kernel
theorem dX8_bring_85 : decode cX8_bring 85 = .ok (.iaload, 1) := by decide +kernel
theorem dX8_bring_86 : decode cX8_bring 86 = .ok (.ireturn, 1) := by decide +kernel
set_option maxRecDepth 20000 in
theorem ggX8_undo_X2_takeLatest : GoodIn wsX8_undo wsX2_takeLatest := goodIn_r _ [8, 9, 10, 51, 52] (by decide +kernel) (by decide +kernel)
set_option maxRecDepth 20000 in
theorem gX8_undo_X2_takeLatest : GoodIn wsX8_undo (wsV RX8 139 RX2 yX2_takeLatest wsX2_takeLatest) := goodIn_app (goodIn_of _ (by decide +kernel)) ggX8_undo_X2_takeLatest
set_option maxRecDepth 20000 in
theorem ggX8_undo_X1_undoOn : GoodIn wsX8_undo wsX1_undoOn := goodIn_r _ [15, 16, 17, 18, 19, 20, 21, 22, 23, 24, 25, 26, 27, 28, 29, 30, 31, 32, 33, 34, 35, 36, 37, 38, 39, 40, 41, 42, 53, 54, 55, 56, 57, 58, 59, 60, 61, 62, 63, 64, 65, 66, 67, 68, 69, 70] (by decide +kernel) (by decide +kernel)
set_option maxRecDepth 20000 in
theorem gX8_undo_X1_undoOn : GoodIn wsX8_undo (wsV RX8 143 RX1 yX1_undoOn wsX1_undoOn) := goodIn_app (goodIn_of _ (by decide +kernel)) ggX8_undo_X1_undoOn
theorem dX8_undo_0 : decode cX8_undo 0 = .ok (.aload_n 0, 1) := by decide +kernel
theorem dX8_undo_1 : decode cX8_undo 1 = .ok (.getfield 54, 3) := by decide +kernel
theorem dX8_undo_4 : decode cX8_undo 4 = .ok (.invokevirtual 139, 3) := by decide +kernel
theorem dX8_undo_7 : decode cX8_undo 7 = .ok (.astore_n 1, 1) := by decide +kernel
theorem dX8_undo_8 : decode cX8_undo 8 = .ok (.aload_n 1, 1) := by decide +kernel
theorem dX8_undo_9 : decode cX8_undo 9 = .ok (.ifnonnull 6, 3) := by decide +kernel
theorem dX8_undo_12 : decode cX8_undo 12 = .ok (.bipush (-2), 2) := by decide +kernel
theorem dX8_undo_14 : decode cX8_undo 14 = .ok (.ireturn, 1) := by decide +kernel
theorem dX8_undo_15 : decode cX8_undo 15 = .ok (.aload_n 1, 1) := by decide +kernel
theorem dX8_undo_16 : decode cX8_undo 16 = .ok (.aload_n 0, 1) := by decide +kernel
theorem dX8_undo_17 : decode cX8_undo 17 = .ok (.getfield 38, 3) := by decide +kernel
theorem dX8_undo_20 : decode cX8_undo 20 = .ok (.invokevirtual 143, 3) := by decide +kernel
theorem dX8_undo_23 : decode cX8_undo 23 = .ok (.aload_n 0, 1) := by decide +kernel
theorem dX8_undo_24 : decode cX8_undo 24 = .ok (.getfield 54, 3) := by decide +kernel
theorem dX8_undo_27 : decode cX8_undo 27 = .ok (.getfield 147, 3) := by decide +kernel
theorem dX8_undo_30 : decode cX8_undo 30 = .ok (.ireturn, 1) := by decide +kernel
set_option maxRecDepth 20000 in
theorem ggX8_heap_X8_isHeap : GoodIn wsX8_heap wsX8_isHeap := goodIn_r _ [10, 1, 11, 12, 13, 9, 14, 24, 25, 26, 27, 28, 29, 30, 31, 32, 33, 34, 35, 36, 37, 38, 39, 40] (by decide +kernel) (by decide +kernel)
set_option maxRecDepth 20000 in
theorem gX8_heap_X8_isHeap : GoodIn wsX8_heap (wsV RX8 129 RX8 yX8_isHeap wsX8_isHeap) := goodIn_app (goodIn_of _ (by decide +kernel)) ggX8_heap_X8_isHeap
set_option maxRecDepth 20000 in
theorem ggX8_heap_X6_laidOf : GoodIn wsX8_heap wsX6_laidOf := goodIn_r _ [19, 20, 21, 22, 23, 41, 42, 43, 44, 45, 46, 47, 48, 49, 50, 51, 52, 53, 54] (by decide +kernel) (by decide +kernel)
set_option maxRecDepth 20000 in
theorem gX8_heap_X6_laidOf : GoodIn wsX8_heap (wsV RX8 153 RX6 yX6_laidOf wsX6_laidOf) := goodIn_app (goodIn_of _ (by decide +kernel)) ggX8_heap_X6_laidOf
theorem dX8_heap_0 : decode cX8_heap 0 = .ok (.aload_n 0, 1) := by decide +kernel
theorem dX8_heap_1 : decode cX8_heap 1 = .ok (.iload_n 1, 1) := by decide +kernel
theorem dX8_heap_2 : decode cX8_heap 2 = .ok (.invokevirtual 129, 3) := by decide +kernel
theorem dX8_heap_5 : decode cX8_heap 5 = .ok (.ifCond .ne 5, 3) := by decide +kernel
theorem dX8_heap_8 : decode cX8_heap 8 = .ok (.iconst (-1), 1) := by decide +kernel
theorem dX8_heap_9 : decode cX8_heap 9 = .ok (.ireturn, 1) := by decide +kernel
theorem dX8_heap_10 : decode cX8_heap 10 = .ok (.iload_n 2, 1) := by decide +kernel
theorem dX8_heap_11 : decode cX8_heap 11 = .ok (.tableswitch 68 0 3 #[29, 39, 49, 59], 29) := by decide +kernel
theorem dX8_heap_40 : decode cX8_heap 40 = .ok (.aload_n 0, 1) := by decide +kernel
theorem dX8_heap_41 : decode cX8_heap 41 = .ok (.getfield 19, 3) := by decide +kernel
theorem dX8_heap_44 : decode cX8_heap 44 = .ok (.getfield 148, 3) := by decide +kernel
theorem dX8_heap_47 : decode cX8_heap 47 = .ok (.iload_n 1, 1) := by decide +kernel
theorem dX8_heap_48 : decode cX8_heap 48 = .ok (.iaload, 1) := by decide +kernel
theorem dX8_heap_49 : decode cX8_heap 49 = .ok (.ireturn, 1) := by decide +kernel
theorem dX8_heap_50 : decode cX8_heap 50 = .ok (.aload_n 0, 1) := by decide +kernel
theorem dX8_heap_51 : decode cX8_heap 51 = .ok (.getfield 19, 3) := by decide +kernel
theorem dX8_heap_54 : decode cX8_heap 54 = .ok (.getfield 150, 3) := by decide +kernel
theorem dX8_heap_57 : decode cX8_heap 57 = .ok (.iload_n 1, 1) := by decide +kernel
theorem dX8_heap_58 : decode cX8_heap 58 = .ok (.iaload, 1) := by decide +kernel
theorem dX8_heap_59 : decode cX8_heap 59 = .ok (.ireturn, 1) := by decide +kernel
theorem dX8_heap_60 : decode cX8_heap 60 = .ok (.aload_n 0, 1) := by decide +kernel
theorem dX8_heap_61 : decode cX8_heap 61 = .ok (.getfield 38, 3) := by decide +kernel
theorem dX8_heap_64 : decode cX8_heap 64 = .ok (.getfield 132, 3) := by decide +kernel
theorem dX8_heap_67 : decode cX8_heap 67 = .ok (.iload_n 1, 1) := by decide +kernel
theorem dX8_heap_68 : decode cX8_heap 68 = .ok (.iaload, 1) := by decide +kernel
theorem dX8_heap_69 : decode cX8_heap 69 = .ok (.ireturn, 1) := by decide +kernel
theorem dX8_heap_70 : decode cX8_heap 70 = .ok (.aload_n 0, 1) := by decide +kernel
theorem dX8_heap_71 : decode cX8_heap 71 = .ok (.getfield 38, 3) := by decide +kernel
theorem dX8_heap_74 : decode cX8_heap 74 = .ok (.iload_n 1, 1) := by decide +kernel
theorem dX8_heap_75 : decode cX8_heap 75 = .ok (.invokevirtual 153, 3) := by decide +kernel
theorem dX8_heap_78 : decode cX8_heap 78 = .ok (.ireturn, 1) := by decide +kernel
theorem dX8_heap_79 : decode cX8_heap 79 = .ok (.iconst (-1), 1) := by decide +kernel
theorem dX8_heap_80 : decode cX8_heap 80 = .ok (.ireturn, 1) := by decide +kernel
set_option maxRecDepth 20000 in
theorem ggX8_told_X8_isCourse : GoodIn wsX8_told wsX8_isCourse := goodIn_r _ [14, 1, 15, 16, 17, 13, 18, 28, 29, 30, 31, 32, 33, 34, 35, 36, 37, 38, 39, 40] (by decide +kernel) (by decide +kernel)
set_option maxRecDepth 20000 in
theorem gX8_told_X8_isCourse : GoodIn wsX8_told (wsV RX8 157 RX8 yX8_isCourse wsX8_isCourse) := goodIn_app (goodIn_of _ (by decide +kernel)) ggX8_told_X8_isCourse
set_option maxRecDepth 20000 in
theorem ggX8_told_X6_lapHeldBy : GoodIn wsX8_told wsX6_lapHeldBy := goodIn_r _ [23, 24, 25, 26, 27, 36, 37, 38, 39, 40, 41, 42, 43, 44, 45, 46, 47, 48, 49] (by decide +kernel) (by decide +kernel)
set_option maxRecDepth 20000 in
theorem gX8_told_X6_lapHeldBy : GoodIn wsX8_told (wsV RX8 178 RX6 yX6_lapHeldBy wsX6_lapHeldBy) := goodIn_app (goodIn_of _ (by decide +kernel)) ggX8_told_X6_lapHeldBy
theorem dX8_told_0 : decode cX8_told 0 = .ok (.aload_n 0, 1) := by decide +kernel
theorem dX8_told_1 : decode cX8_told 1 = .ok (.iload_n 1, 1) := by decide +kernel
theorem dX8_told_2 : decode cX8_told 2 = .ok (.invokevirtual 157, 3) := by decide +kernel
theorem dX8_told_5 : decode cX8_told 5 = .ok (.ifCond .ne 5, 3) := by decide +kernel
theorem dX8_told_8 : decode cX8_told 8 = .ok (.iconst (-1), 1) := by decide +kernel
theorem dX8_told_9 : decode cX8_told 9 = .ok (.ireturn, 1) := by decide +kernel
theorem dX8_told_10 : decode cX8_told 10 = .ok (.aload_n 0, 1) := by decide +kernel
theorem dX8_told_11 : decode cX8_told 11 = .ok (.getfield 38, 3) := by decide +kernel
theorem dX8_told_14 : decode cX8_told 14 = .ok (.getfield 160, 3) := by decide +kernel
theorem dX8_told_17 : decode cX8_told 17 = .ok (.iload_n 1, 1) := by decide +kernel
theorem dX8_told_18 : decode cX8_told 18 = .ok (.aaload, 1) := by decide +kernel
theorem dX8_told_19 : decode cX8_told 19 = .ok (.astore_n 3, 1) := by decide +kernel
theorem dX8_told_20 : decode cX8_told 20 = .ok (.iload_n 2, 1) := by decide +kernel
theorem dX8_told_21 : decode cX8_told 21 = .ok (.tableswitch 91 0 7 #[47, 52, 57, 62, 67, 72, 77, 86], 47) := by decide +kernel
theorem dX8_told_68 : decode cX8_told 68 = .ok (.aload_n 3, 1) := by decide +kernel
theorem dX8_told_69 : decode cX8_told 69 = .ok (.getfield 164, 3) := by decide +kernel
theorem dX8_told_72 : decode cX8_told 72 = .ok (.ireturn, 1) := by decide +kernel
theorem dX8_told_73 : decode cX8_told 73 = .ok (.aload_n 3, 1) := by decide +kernel
theorem dX8_told_74 : decode cX8_told 74 = .ok (.getfield 166, 3) := by decide +kernel
theorem dX8_told_77 : decode cX8_told 77 = .ok (.ireturn, 1) := by decide +kernel
theorem dX8_told_78 : decode cX8_told 78 = .ok (.aload_n 3, 1) := by decide +kernel
theorem dX8_told_79 : decode cX8_told 79 = .ok (.getfield 169, 3) := by decide +kernel
theorem dX8_told_82 : decode cX8_told 82 = .ok (.ireturn, 1) := by decide +kernel
theorem dX8_told_83 : decode cX8_told 83 = .ok (.aload_n 3, 1) := by decide +kernel
theorem dX8_told_84 : decode cX8_told 84 = .ok (.getfield 172, 3) := by decide +kernel
theorem dX8_told_87 : decode cX8_told 87 = .ok (.ireturn, 1) := by decide +kernel
theorem dX8_told_88 : decode cX8_told 88 = .ok (.aload_n 3, 1) := by decide +kernel
theorem dX8_told_89 : decode cX8_told 89 = .ok (.getfield 123, 3) := by decide +kernel
theorem dX8_told_92 : decode cX8_told 92 = .ok (.ireturn, 1) := by decide +kernel
theorem dX8_told_93 : decode cX8_told 93 = .ok (.aload_n 3, 1) := by decide +kernel
theorem dX8_told_94 : decode cX8_told 94 = .ok (.getfield 175, 3) := by decide +kernel
theorem dX8_told_97 : decode cX8_told 97 = .ok (.ireturn, 1) := by decide +kernel
theorem dX8_told_98 : decode cX8_told 98 = .ok (.aload_n 0, 1) := by decide +kernel
theorem dX8_told_99 : decode cX8_told 99 = .ok (.getfield 38, 3) := by decide +kernel
theorem dX8_told_102 : decode cX8_told 102 = .ok (.iload_n 1, 1) := by decide +kernel
theorem dX8_told_103 : decode cX8_told 103 = .ok (.invokevirtual 178, 3) := by decide +kernel
theorem dX8_told_106 : decode cX8_told 106 = .ok (.ireturn, 1) := by decide +kernel
theorem dX8_told_107 : decode cX8_told 107 = .ok (.aload_n 3, 1) := by decide +kernel
theorem dX8_told_108 : decode cX8_told 108 = .ok (.getfield 181, 3) := by decide +kernel
theorem dX8_told_111 : decode cX8_told 111 = .ok (.ireturn, 1) := by decide +kernel
theorem dX8_told_112 : decode cX8_told 112 = .ok (.iconst (-1), 1) := by decide +kernel
theorem dX8_told_113 : decode cX8_told 113 = .ok (.ireturn, 1) := by decide +kernel
set_option maxRecDepth 20000 in
theorem ggX8_joint_X8_isCourse : GoodIn wsX8_joint wsX8_isCourse := goodIn_r _ [8, 1, 9, 10, 11, 7, 12, 23, 24, 25, 26, 27, 28, 29, 30, 31, 32, 33, 34, 35] (by decide +kernel) (by decide +kernel)
set_option maxRecDepth 20000 in
theorem gX8_joint_X8_isCourse : GoodIn wsX8_joint (wsV RX8 157 RX8 yX8_isCourse wsX8_isCourse) := goodIn_app (goodIn_of _ (by decide +kernel)) ggX8_joint_X8_isCourse
set_option maxRecDepth 20000 in
theorem ggX8_joint_X3_joints : GoodIn wsX8_joint wsX3_joints := goodIn_r _ [17, 18, 19, 20, 21, 22, 36, 37, 38, 39, 40, 41, 42, 43, 44] (by decide +kernel) (by decide +kernel)
set_option maxRecDepth 20000 in
theorem gX8_joint_X3_joints : GoodIn wsX8_joint (wsV RX8 184 RX3 yX3_joints wsX3_joints) := goodIn_app (goodIn_of _ (by decide +kernel)) ggX8_joint_X3_joints
theorem dX8_joint_0 : decode cX8_joint 0 = .ok (.aload_n 0, 1) := by decide +kernel
theorem dX8_joint_1 : decode cX8_joint 1 = .ok (.iload_n 1, 1) := by decide +kernel
theorem dX8_joint_2 : decode cX8_joint 2 = .ok (.invokevirtual 157, 3) := by decide +kernel
theorem dX8_joint_5 : decode cX8_joint 5 = .ok (.ifCond .eq 7, 3) := by decide +kernel
theorem dX8_joint_8 : decode cX8_joint 8 = .ok (.iload_n 2, 1) := by decide +kernel
theorem dX8_joint_9 : decode cX8_joint 9 = .ok (.ifCond .ge 5, 3) := by decide +kernel
theorem dX8_joint_12 : decode cX8_joint 12 = .ok (.iconst (-1), 1) := by decide +kernel
theorem dX8_joint_13 : decode cX8_joint 13 = .ok (.ireturn, 1) := by decide +kernel
theorem dX8_joint_14 : decode cX8_joint 14 = .ok (.aload_n 0, 1) := by decide +kernel
theorem dX8_joint_15 : decode cX8_joint 15 = .ok (.getfield 38, 3) := by decide +kernel
theorem dX8_joint_18 : decode cX8_joint 18 = .ok (.getfield 160, 3) := by decide +kernel
theorem dX8_joint_21 : decode cX8_joint 21 = .ok (.iload_n 1, 1) := by decide +kernel
theorem dX8_joint_22 : decode cX8_joint 22 = .ok (.aaload, 1) := by decide +kernel
theorem dX8_joint_23 : decode cX8_joint 23 = .ok (.astore_n 3, 1) := by decide +kernel
theorem dX8_joint_24 : decode cX8_joint 24 = .ok (.iload_n 2, 1) := by decide +kernel
theorem dX8_joint_25 : decode cX8_joint 25 = .ok (.aload_n 3, 1) := by decide +kernel
theorem dX8_joint_26 : decode cX8_joint 26 = .ok (.invokevirtual 184, 3) := by decide +kernel
theorem dX8_joint_29 : decode cX8_joint 29 = .ok (.if_icmp .ge 12, 3) := by decide +kernel
theorem dX8_joint_32 : decode cX8_joint 32 = .ok (.aload_n 3, 1) := by decide +kernel
theorem dX8_joint_33 : decode cX8_joint 33 = .ok (.getfield 187, 3) := by decide +kernel
theorem dX8_joint_36 : decode cX8_joint 36 = .ok (.iload_n 2, 1) := by decide +kernel
theorem dX8_joint_37 : decode cX8_joint 37 = .ok (.iaload, 1) := by decide +kernel
theorem dX8_joint_38 : decode cX8_joint 38 = .ok (.goto 5, 3) := by decide +kernel
theorem dX8_joint_41 : decode cX8_joint 41 = .ok (.bipush (-4), 2) := by decide +kernel
theorem dX8_joint_43 : decode cX8_joint 43 = .ok (.ireturn, 1) := by decide +kernel
set_option maxRecDepth 20000 in
theorem ggX8_slate_X8_isCourse : GoodIn wsX8_slate wsX8_isCourse := goodIn_r _ [10, 1, 11, 12, 13, 9, 14, 21, 22, 23, 24, 25, 26, 27, 28, 29, 30, 31, 32, 33] (by decide +kernel) (by decide +kernel)
set_option maxRecDepth 20000 in
theorem gX8_slate_X8_isCourse : GoodIn wsX8_slate (wsV RX8 157 RX8 yX8_isCourse wsX8_isCourse) := goodIn_app (goodIn_of _ (by decide +kernel)) ggX8_slate_X8_isCourse
set_option maxRecDepth 20000 in
theorem ggX8_slate_X8_isWithin : GoodIn wsX8_slate wsX8_isWithin := goodIn_r _ [14] (by decide +kernel) (by decide +kernel)
set_option maxRecDepth 20000 in
theorem gX8_slate_X8_isWithin : GoodIn wsX8_slate (va_wsS RX8 91 yX8_isWithin wsX8_isWithin) := goodIn_app (goodIn_of _ (by decide +kernel)) ggX8_slate_X8_isWithin
set_option maxRecDepth 20000 in
theorem ggX8_slate_X3_startOf : GoodIn wsX8_slate wsX3_startOf := goodIn_r _ [19, 20, 34, 35, 36, 37, 38, 39, 40, 41, 42] (by decide +kernel) (by decide +kernel)
set_option maxRecDepth 20000 in
theorem gX8_slate_X3_startOf : GoodIn wsX8_slate (wsV RX8 193 RX3 yX3_startOf wsX3_startOf) := goodIn_app (goodIn_of _ (by decide +kernel)) ggX8_slate_X3_startOf
theorem dX8_slate_0 : decode cX8_slate 0 = .ok (.aload_n 0, 1) := by decide +kernel
theorem dX8_slate_1 : decode cX8_slate 1 = .ok (.iload_n 1, 1) := by decide +kernel
theorem dX8_slate_2 : decode cX8_slate 2 = .ok (.invokevirtual 157, 3) := by decide +kernel
theorem dX8_slate_5 : decode cX8_slate 5 = .ok (.ifCond .eq 16, 3) := by decide +kernel
theorem dX8_slate_8 : decode cX8_slate 8 = .ok (.iload_n 2, 1) := by decide +kernel
theorem dX8_slate_9 : decode cX8_slate 9 = .ok (.ifCond .lt 12, 3) := by decide +kernel
theorem dX8_slate_12 : decode cX8_slate 12 = .ok (.iload_n 3, 1) := by decide +kernel
theorem dX8_slate_13 : decode cX8_slate 13 = .ok (.iconst 0, 1) := by decide +kernel
theorem dX8_slate_14 : decode cX8_slate 14 = .ok (.iconst 1, 1) := by decide +kernel
theorem dX8_slate_15 : decode cX8_slate 15 = .ok (.invokestatic 91, 3) := by decide +kernel
theorem dX8_slate_18 : decode cX8_slate 18 = .ok (.ifCond .ne 5, 3) := by decide +kernel
theorem dX8_slate_21 : decode cX8_slate 21 = .ok (.iconst (-1), 1) := by decide +kernel
theorem dX8_slate_22 : decode cX8_slate 22 = .ok (.ireturn, 1) := by decide +kernel
theorem dX8_slate_23 : decode cX8_slate 23 = .ok (.aload_n 0, 1) := by decide +kernel
theorem dX8_slate_24 : decode cX8_slate 24 = .ok (.getfield 38, 3) := by decide +kernel
theorem dX8_slate_27 : decode cX8_slate 27 = .ok (.getfield 160, 3) := by decide +kernel
theorem dX8_slate_30 : decode cX8_slate 30 = .ok (.iload_n 1, 1) := by decide +kernel
theorem dX8_slate_31 : decode cX8_slate 31 = .ok (.aaload, 1) := by decide +kernel
theorem dX8_slate_32 : decode cX8_slate 32 = .ok (.astore 4, 2) := by decide +kernel
theorem dX8_slate_34 : decode cX8_slate 34 = .ok (.iload_n 2, 1) := by decide +kernel
theorem dX8_slate_35 : decode cX8_slate 35 = .ok (.aload 4, 2) := by decide +kernel
theorem dX8_slate_37 : decode cX8_slate 37 = .ok (.getfield 123, 3) := by decide +kernel
theorem dX8_slate_40 : decode cX8_slate 40 = .ok (.if_icmp .lt 6, 3) := by decide +kernel
theorem dX8_slate_43 : decode cX8_slate 43 = .ok (.bipush (-4), 2) := by decide +kernel
theorem dX8_slate_45 : decode cX8_slate 45 = .ok (.ireturn, 1) := by decide +kernel
theorem dX8_slate_46 : decode cX8_slate 46 = .ok (.iload_n 3, 1) := by decide +kernel
theorem dX8_slate_47 : decode cX8_slate 47 = .ok (.ifCond .ne 13, 3) := by decide +kernel
theorem dX8_slate_50 : decode cX8_slate 50 = .ok (.aload 4, 2) := by decide +kernel
theorem dX8_slate_52 : decode cX8_slate 52 = .ok (.getfield 190, 3) := by decide +kernel
theorem dX8_slate_55 : decode cX8_slate 55 = .ok (.iload_n 2, 1) := by decide +kernel
theorem dX8_slate_56 : decode cX8_slate 56 = .ok (.iaload, 1) := by decide +kernel
theorem dX8_slate_57 : decode cX8_slate 57 = .ok (.goto 17, 3) := by decide +kernel
theorem dX8_slate_60 : decode cX8_slate 60 = .ok (.aload 4, 2) := by decide +kernel
theorem dX8_slate_62 : decode cX8_slate 62 = .ok (.getfield 187, 3) := by decide +kernel
theorem dX8_slate_65 : decode cX8_slate 65 = .ok (.iload_n 2, 1) := by decide +kernel
theorem dX8_slate_66 : decode cX8_slate 66 = .ok (.iaload, 1) := by decide +kernel
theorem dX8_slate_67 : decode cX8_slate 67 = .ok (.aload 4, 2) := by decide +kernel
theorem dX8_slate_69 : decode cX8_slate 69 = .ok (.iload_n 2, 1) := by decide +kernel
theorem dX8_slate_70 : decode cX8_slate 70 = .ok (.invokevirtual 193, 3) := by decide +kernel
theorem dX8_slate_73 : decode cX8_slate 73 = .ok (.isub, 1) := by decide +kernel
theorem dX8_slate_74 : decode cX8_slate 74 = .ok (.ireturn, 1) := by decide +kernel
set_option maxRecDepth 20000 in
theorem ggX8_tried_X8_isWithin : GoodIn wsX8_tried wsX8_isWithin := goodIn_r _ [7] (by decide +kernel) (by decide +kernel)
set_option maxRecDepth 20000 in
theorem gX8_tried_X8_isWithin : GoodIn wsX8_tried (va_wsS RX8 91 yX8_isWithin wsX8_isWithin) := goodIn_app (goodIn_of _ (by decide +kernel)) ggX8_tried_X8_isWithin
set_option maxRecDepth 20000 in
theorem ggX8_tried_X8_fillTrial : GoodIn wsX8_tried wsX8_fillTrial := goodIn_r _ [11, 12, 13, 14, 1, 15, 16, 17, 18, 19, 20, 21, 22, 23, 24, 25, 26, 27, 28, 29, 30, 31, 32, 33, 34, 35, 36, 37, 38, 39, 40, 41, 42, 43, 44, 45, 46, 47, 48, 49, 50, 51, 52, 53, 54, 55, 56, 57, 58, 59, 60, 61, 62, 63, 64, 65, 66, 67, 68, 69, 70, 71, 72, 73, 74, 75, 76, 77, 78, 79, 80, 81, 82, 83, 84, 85, 86, 87, 88, 89, 90, 91, 92, 93, 94, 95, 96, 97, 98, 99, 100, 101, 102, 103, 104, 105, 106, 107, 108, 109, 110, 111, 112, 113, 114, 115, 116, 117, 118, 119, 120, 121, 122, 123, 124, 125, 126, 127, 128, 129, 130, 131, 132, 133, 134, 135, 136, 137, 138, 139, 140, 141, 142, 143, 144, 145, 146, 147, 148, 149, 150, 151, 152, 153, 154, 155, 156, 157, 158, 159, 160, 161, 162, 163, 164, 165] (by decide +kernel) (by decide +kernel)
set_option maxRecDepth 20000 in
theorem gX8_tried_X8_fillTrial : GoodIn wsX8_tried (wsV RX8 106 RX8 yX8_fillTrial wsX8_fillTrial) := goodIn_app (goodIn_of _ (by decide +kernel)) ggX8_tried_X8_fillTrial
theorem dX8_tried_0 : decode cX8_tried 0 = .ok (.iload_n 1, 1) := by decide +kernel
theorem dX8_tried_1 : decode cX8_tried 1 = .ok (.bipush 20, 2) := by decide +kernel
theorem dX8_tried_3 : decode cX8_tried 3 = .ok (.bipush 60, 2) := by decide +kernel
theorem dX8_tried_5 : decode cX8_tried 5 = .ok (.invokestatic 91, 3) := by decide +kernel
theorem dX8_tried_8 : decode cX8_tried 8 = .ok (.ifCond .eq 12, 3) := by decide +kernel
theorem dX8_tried_11 : decode cX8_tried 11 = .ok (.iload_n 2, 1) := by decide +kernel
theorem dX8_tried_12 : decode cX8_tried 12 = .ok (.iconst 0, 1) := by decide +kernel
theorem dX8_tried_13 : decode cX8_tried 13 = .ok (.iconst 1, 1) := by decide +kernel
theorem dX8_tried_14 : decode cX8_tried 14 = .ok (.invokestatic 91, 3) := by decide +kernel
theorem dX8_tried_17 : decode cX8_tried 17 = .ok (.ifCond .ne 5, 3) := by decide +kernel
theorem dX8_tried_20 : decode cX8_tried 20 = .ok (.iconst (-1), 1) := by decide +kernel
theorem dX8_tried_21 : decode cX8_tried 21 = .ok (.ireturn, 1) := by decide +kernel
theorem dX8_tried_22 : decode cX8_tried 22 = .ok (.aload_n 0, 1) := by decide +kernel
theorem dX8_tried_23 : decode cX8_tried 23 = .ok (.iload_n 1, 1) := by decide +kernel
theorem dX8_tried_24 : decode cX8_tried 24 = .ok (.invokevirtual 106, 3) := by decide +kernel
theorem dX8_tried_27 : decode cX8_tried 27 = .ok (.ifCond .ne 6, 3) := by decide +kernel
theorem dX8_tried_30 : decode cX8_tried 30 = .ok (.bipush (-2), 2) := by decide +kernel
theorem dX8_tried_32 : decode cX8_tried 32 = .ok (.ireturn, 1) := by decide +kernel
theorem dX8_tried_33 : decode cX8_tried 33 = .ok (.iload_n 2, 1) := by decide +kernel
theorem dX8_tried_34 : decode cX8_tried 34 = .ok (.ifCond .ne 13, 3) := by decide +kernel
theorem dX8_tried_37 : decode cX8_tried 37 = .ok (.aload_n 0, 1) := by decide +kernel
theorem dX8_tried_38 : decode cX8_tried 38 = .ok (.getfield 61, 3) := by decide +kernel
theorem dX8_tried_41 : decode cX8_tried 41 = .ok (.getfield 123, 3) := by decide +kernel
theorem dX8_tried_44 : decode cX8_tried 44 = .ok (.goto 10, 3) := by decide +kernel
theorem dX8_tried_47 : decode cX8_tried 47 = .ok (.aload_n 0, 1) := by decide +kernel
theorem dX8_tried_48 : decode cX8_tried 48 = .ok (.getfield 61, 3) := by decide +kernel
theorem dX8_tried_51 : decode cX8_tried 51 = .ok (.getfield 175, 3) := by decide +kernel
theorem dX8_tried_54 : decode cX8_tried 54 = .ok (.ireturn, 1) := by decide +kernel
set_option maxRecDepth 20000 in
theorem ggX8_next_X8_isWithin : GoodIn wsX8_next wsX8_isWithin := goodIn_r _ [7] (by decide +kernel) (by decide +kernel)
set_option maxRecDepth 20000 in
theorem gX8_next_X8_isWithin : GoodIn wsX8_next (va_wsS RX8 91 yX8_isWithin wsX8_isWithin) := goodIn_app (goodIn_of _ (by decide +kernel)) ggX8_next_X8_isWithin
set_option maxRecDepth 20000 in
theorem ggX8_next_X6_isOpen : GoodIn wsX8_next wsX6_isOpen := goodIn_r _ [12, 13, 14, 15, 16, 17, 11, 18, 19, 20, 21, 22, 23, 24, 25, 26, 27, 28, 29, 30, 31, 32, 33, 146, 147, 148, 149, 150, 151, 152, 153, 154, 155, 156, 157, 158, 159, 160, 161, 162, 163, 164, 165, 166, 167, 168] (by decide +kernel) (by decide +kernel)
set_option maxRecDepth 20000 in
theorem gX8_next_X6_isOpen : GoodIn wsX8_next (wsV RX8 196 RX6 yX6_isOpen wsX6_isOpen) := goodIn_app (goodIn_of _ (by decide +kernel)) ggX8_next_X6_isOpen
set_option maxRecDepth 20000 in
theorem ggX8_next_X6_last : GoodIn wsX8_next wsX6_last := goodIn_r _ [18, 13, 19, 20, 146, 147, 148, 149, 150] (by decide +kernel) (by decide +kernel)
set_option maxRecDepth 20000 in
theorem gX8_next_X6_last : GoodIn wsX8_next (wsV RX8 200 RX6 yX6_last wsX6_last) := goodIn_app (goodIn_of _ (by decide +kernel)) ggX8_next_X6_last
set_option maxRecDepth 20000 in
theorem ggX8_next_X0_choose : GoodIn wsX8_next wsX0_choose := goodIn_r _ [39, 40, 41, 42, 43, 44, 45, 46, 47, 48, 49, 50, 51, 52, 53, 54, 55, 56, 57, 58, 59, 60, 61, 62, 28, 29, 30, 31, 32, 33, 63, 64, 65, 24, 66, 67, 68, 69, 70, 71, 72, 73, 74, 75, 76, 77, 78, 79, 80, 81, 82, 83, 84, 85, 86, 87, 88, 89, 90, 91, 92, 93, 94, 95, 96, 97, 98, 99, 100, 101, 102, 103, 104, 105, 106, 107, 108, 109, 110, 111, 112, 113, 114, 115, 116, 117, 118, 119, 120, 121, 122, 123, 124, 125, 126, 127, 128, 129, 130, 131, 132, 133, 134, 135, 136, 137, 169, 170, 171, 172, 173, 174, 175, 176, 177, 178, 151, 152, 153, 154, 155, 156, 157, 158, 159, 160, 161, 162, 163, 164, 165, 166, 167, 168, 179, 180] (by decide +kernel) (by decide +kernel)
set_option maxRecDepth 20000 in
theorem gX8_next_X0_choose : GoodIn wsX8_next (wsV RX8 203 RX0 yX0_choose wsX0_choose) := goodIn_app (goodIn_of _ (by decide +kernel)) ggX8_next_X0_choose
theorem dX8_next_0 : decode cX8_next 0 = .ok (.iload_n 1, 1) := by decide +kernel
theorem dX8_next_1 : decode cX8_next 1 = .ok (.iconst 0, 1) := by decide +kernel
theorem dX8_next_2 : decode cX8_next 2 = .ok (.iconst 1, 1) := by decide +kernel
theorem dX8_next_3 : decode cX8_next 3 = .ok (.invokestatic 91, 3) := by decide +kernel
theorem dX8_next_6 : decode cX8_next 6 = .ok (.ifCond .ne 5, 3) := by decide +kernel
theorem dX8_next_9 : decode cX8_next 9 = .ok (.iconst (-1), 1) := by decide +kernel
theorem dX8_next_10 : decode cX8_next 10 = .ok (.ireturn, 1) := by decide +kernel
theorem dX8_next_11 : decode cX8_next 11 = .ok (.aload_n 0, 1) := by decide +kernel
theorem dX8_next_12 : decode cX8_next 12 = .ok (.getfield 38, 3) := by decide +kernel
theorem dX8_next_15 : decode cX8_next 15 = .ok (.invokevirtual 196, 3) := by decide +kernel
theorem dX8_next_18 : decode cX8_next 18 = .ok (.ifCond .eq 28, 3) := by decide +kernel
theorem dX8_next_21 : decode cX8_next 21 = .ok (.aload_n 0, 1) := by decide +kernel
theorem dX8_next_22 : decode cX8_next 22 = .ok (.getfield 47, 3) := by decide +kernel
theorem dX8_next_25 : decode cX8_next 25 = .ok (.iload_n 1, 1) := by decide +kernel
theorem dX8_next_26 : decode cX8_next 26 = .ok (.aload_n 0, 1) := by decide +kernel
theorem dX8_next_27 : decode cX8_next 27 = .ok (.getfield 38, 3) := by decide +kernel
theorem dX8_next_30 : decode cX8_next 30 = .ok (.getfield 132, 3) := by decide +kernel
theorem dX8_next_33 : decode cX8_next 33 = .ok (.aload_n 0, 1) := by decide +kernel
theorem dX8_next_34 : decode cX8_next 34 = .ok (.getfield 38, 3) := by decide +kernel
theorem dX8_next_37 : decode cX8_next 37 = .ok (.invokevirtual 200, 3) := by decide +kernel
theorem dX8_next_40 : decode cX8_next 40 = .ok (.invokevirtual 203, 3) := by decide +kernel
theorem dX8_next_43 : decode cX8_next 43 = .ok (.goto 5, 3) := by decide +kernel
theorem dX8_next_46 : decode cX8_next 46 = .ok (.bipush (-4), 2) := by decide +kernel
theorem dX8_next_48 : decode cX8_next 48 = .ok (.ireturn, 1) := by decide +kernel
set_option maxRecDepth 20000 in
theorem ggX8_itself_X8_isWithin : GoodIn wsX8_itself wsX8_isWithin := goodIn_r _ [8] (by decide +kernel) (by decide +kernel)
set_option maxRecDepth 20000 in
theorem gX8_itself_X8_isWithin : GoodIn wsX8_itself (va_wsS RX8 91 yX8_isWithin wsX8_isWithin) := goodIn_app (goodIn_of _ (by decide +kernel)) ggX8_itself_X8_isWithin
set_option maxRecDepth 20000 in
theorem ggX8_itself_X0_go : GoodIn wsX8_itself wsX0_go := goodIn_r _ [13, 14, 15, 16, 17, 18, 19, 20, 21, 22, 23, 24, 25, 26, 27, 28, 29, 30, 31, 32, 33, 34, 35, 36, 37, 38, 39, 40, 41, 42, 43, 44, 45, 46, 47, 48, 49, 50, 51, 52, 53, 12, 54, 55, 56, 57, 58, 59, 60, 61, 62, 63, 64, 65, 66, 67, 68, 69, 70, 71, 72, 73, 74, 75, 76, 77, 78, 79, 80, 81, 82, 83, 84, 85, 86, 87, 88, 89, 90, 91, 92, 93, 94, 95, 96, 97, 98, 99, 100, 101, 102, 103, 104, 105, 106, 107, 108, 109, 110, 111, 112, 113, 114, 115, 116, 117, 118, 119, 120, 121, 122, 123, 124, 125, 126, 127, 128, 129, 130, 131, 132, 133, 134, 135, 136, 137, 138, 139, 140, 141, 142, 143, 144, 145, 146, 147, 148, 149, 150, 151, 160, 161, 162, 163, 164, 165, 166, 167, 168, 169, 170, 171, 172, 173, 174, 175, 176, 177, 178, 179, 180, 181, 182, 183, 184, 185, 186, 187, 188, 189, 190, 191, 192, 193, 194] (by decide +kernel) (by decide +kernel)
set_option maxRecDepth 20000 in
theorem gX8_itself_X0_go : GoodIn wsX8_itself (wsV RX8 207 RX0 yX0_go wsX0_go) := goodIn_app (goodIn_of _ (by decide +kernel)) ggX8_itself_X0_go
theorem dX8_itself_0 : decode cX8_itself 0 = .ok (.iload_n 1, 1) := by decide +kernel
theorem dX8_itself_1 : decode cX8_itself 1 = .ok (.iconst 0, 1) := by decide +kernel
theorem dX8_itself_2 : decode cX8_itself 2 = .ok (.iconst 1, 1) := by decide +kernel
theorem dX8_itself_3 : decode cX8_itself 3 = .ok (.invokestatic 91, 3) := by decide +kernel
theorem dX8_itself_6 : decode cX8_itself 6 = .ok (.ifCond .eq 12, 3) := by decide +kernel
theorem dX8_itself_9 : decode cX8_itself 9 = .ok (.iload_n 2, 1) := by decide +kernel
theorem dX8_itself_10 : decode cX8_itself 10 = .ok (.iconst 0, 1) := by decide +kernel
theorem dX8_itself_11 : decode cX8_itself 11 = .ok (.iconst 2, 1) := by decide +kernel
theorem dX8_itself_12 : decode cX8_itself 12 = .ok (.invokestatic 91, 3) := by decide +kernel
theorem dX8_itself_15 : decode cX8_itself 15 = .ok (.ifCond .ne 5, 3) := by decide +kernel
theorem dX8_itself_18 : decode cX8_itself 18 = .ok (.iconst (-1), 1) := by decide +kernel
theorem dX8_itself_19 : decode cX8_itself 19 = .ok (.ireturn, 1) := by decide +kernel
theorem dX8_itself_20 : decode cX8_itself 20 = .ok (.aload_n 0, 1) := by decide +kernel
theorem dX8_itself_21 : decode cX8_itself 21 = .ok (.getfield 47, 3) := by decide +kernel
theorem dX8_itself_24 : decode cX8_itself 24 = .ok (.iload_n 1, 1) := by decide +kernel
theorem dX8_itself_25 : decode cX8_itself 25 = .ok (.invokevirtual 207, 3) := by decide +kernel
theorem dX8_itself_28 : decode cX8_itself 28 = .ok (.iload_n 2, 1) := by decide +kernel
theorem dX8_itself_29 : decode cX8_itself 29 = .ok (.lookupswitch 43 #[(0, 27), (1, 35)], 27) := by decide +kernel
theorem dX8_itself_56 : decode cX8_itself 56 = .ok (.aload_n 0, 1) := by decide +kernel
theorem dX8_itself_57 : decode cX8_itself 57 = .ok (.getfield 47, 3) := by decide +kernel
theorem dX8_itself_60 : decode cX8_itself 60 = .ok (.getfield 211, 3) := by decide +kernel
theorem dX8_itself_63 : decode cX8_itself 63 = .ok (.ireturn, 1) := by decide +kernel
theorem dX8_itself_64 : decode cX8_itself 64 = .ok (.aload_n 0, 1) := by decide +kernel
theorem dX8_itself_65 : decode cX8_itself 65 = .ok (.getfield 47, 3) := by decide +kernel
theorem dX8_itself_68 : decode cX8_itself 68 = .ok (.getfield 214, 3) := by decide +kernel
theorem dX8_itself_71 : decode cX8_itself 71 = .ok (.ireturn, 1) := by decide +kernel
theorem dX8_itself_72 : decode cX8_itself 72 = .ok (.aload_n 0, 1) := by decide +kernel
theorem dX8_itself_73 : decode cX8_itself 73 = .ok (.getfield 47, 3) := by decide +kernel
theorem dX8_itself_76 : decode cX8_itself 76 = .ok (.getfield 215, 3) := by decide +kernel
theorem dX8_itself_79 : decode cX8_itself 79 = .ok (.ifCond .eq 7, 3) := by decide +kernel
theorem dX8_itself_82 : decode cX8_itself 82 = .ok (.iconst 1, 1) := by decide +kernel
theorem dX8_itself_83 : decode cX8_itself 83 = .ok (.goto 4, 3) := by decide +kernel
theorem dX8_itself_86 : decode cX8_itself 86 = .ok (.iconst 0, 1) := by decide +kernel
theorem dX8_itself_87 : decode cX8_itself 87 = .ok (.ireturn, 1) := by decide +kernel
set_option maxRecDepth 20000 in
theorem ggX8_count_X6_last : GoodIn wsX8_count wsX6_last := goodIn_r _ [18, 19, 20, 21, 65, 66, 67, 68, 69] (by decide +kernel) (by decide +kernel)
set_option maxRecDepth 20000 in
theorem gX8_count_X6_last : GoodIn wsX8_count (wsV RX8 200 RX6 yX6_last wsX6_last) := goodIn_app (goodIn_of _ (by decide +kernel)) ggX8_count_X6_last
set_option maxRecDepth 20000 in
theorem ggX8_count_X3_head : GoodIn wsX8_count wsX3_head := goodIn_r _ [26, 27, 28, 76, 77, 78, 79, 80, 81, 82, 83, 84] (by decide +kernel) (by decide +kernel)
set_option maxRecDepth 20000 in
theorem gX8_count_X3_head : GoodIn wsX8_count (wsV RX8 234 RX3 yX3_head wsX3_head) := goodIn_app (goodIn_of _ (by decide +kernel)) ggX8_count_X3_head
set_option maxRecDepth 20000 in
theorem ggX8_count_X5_isReadyBy : GoodIn wsX8_count wsX5_isReadyBy := goodIn_r _ [33, 34, 35, 23, 24, 25, 26, 27, 28, 56, 57, 58, 59, 60, 61, 62, 63, 64, 76, 77, 78, 79, 80, 81, 82, 83, 84] (by decide +kernel) (by decide +kernel)
set_option maxRecDepth 20000 in
theorem gX8_count_X5_isReadyBy : GoodIn wsX8_count (wsV RX8 237 RX5 yX5_isReadyBy wsX5_isReadyBy) := goodIn_app (goodIn_of _ (by decide +kernel)) ggX8_count_X5_isReadyBy
set_option maxRecDepth 20000 in
theorem ggX8_count_X6_waste : GoodIn wsX8_count wsX6_waste := goodIn_r _ [39, 19, 20, 40, 65, 66, 67, 68, 69, 76, 77, 78, 79, 80, 81, 82, 83, 84] (by decide +kernel) (by decide +kernel)
set_option maxRecDepth 20000 in
theorem gX8_count_X6_waste : GoodIn wsX8_count (wsV RX8 241 RX6 yX6_waste wsX6_waste) := goodIn_app (goodIn_of _ (by decide +kernel)) ggX8_count_X6_waste
set_option maxRecDepth 20000 in
theorem ggX8_count_X6_slatesLeft : GoodIn wsX8_count wsX6_slatesLeft := goodIn_r _ [44, 45, 46, 47, 65, 66, 67, 68, 69, 56, 57, 58, 59, 60, 61, 62, 63, 64] (by decide +kernel) (by decide +kernel)
set_option maxRecDepth 20000 in
theorem gX8_count_X6_slatesLeft : GoodIn wsX8_count (wsV RX8 243 RX6 yX6_slatesLeft wsX6_slatesLeft) := goodIn_app (goodIn_of _ (by decide +kernel)) ggX8_count_X6_slatesLeft
theorem dX8_count_0 : decode cX8_count 0 = .ok (.iload_n 1, 1) := by decide +kernel
theorem dX8_count_1 : decode cX8_count 1 = .ok (.tableswitch 189 0 12 #[67, 75, 83, 91, 99, 107, 115, 123, 134, 157, 165, 173, 181], 67) := by decide +kernel
theorem dX8_count_68 : decode cX8_count 68 = .ok (.aload_n 0, 1) := by decide +kernel
theorem dX8_count_69 : decode cX8_count 69 = .ok (.getfield 19, 3) := by decide +kernel
theorem dX8_count_72 : decode cX8_count 72 = .ok (.getfield 99, 3) := by decide +kernel
theorem dX8_count_75 : decode cX8_count 75 = .ok (.ireturn, 1) := by decide +kernel
theorem dX8_count_76 : decode cX8_count 76 = .ok (.aload_n 0, 1) := by decide +kernel
theorem dX8_count_77 : decode cX8_count 77 = .ok (.getfield 38, 3) := by decide +kernel
theorem dX8_count_80 : decode cX8_count 80 = .ok (.getfield 124, 3) := by decide +kernel
theorem dX8_count_83 : decode cX8_count 83 = .ok (.ireturn, 1) := by decide +kernel
theorem dX8_count_84 : decode cX8_count 84 = .ok (.aload_n 0, 1) := by decide +kernel
theorem dX8_count_85 : decode cX8_count 85 = .ok (.getfield 19, 3) := by decide +kernel
theorem dX8_count_88 : decode cX8_count 88 = .ok (.getfield 219, 3) := by decide +kernel
theorem dX8_count_91 : decode cX8_count 91 = .ok (.ireturn, 1) := by decide +kernel
theorem dX8_count_92 : decode cX8_count 92 = .ok (.aload_n 0, 1) := by decide +kernel
theorem dX8_count_93 : decode cX8_count 93 = .ok (.getfield 19, 3) := by decide +kernel
theorem dX8_count_96 : decode cX8_count 96 = .ok (.getfield 222, 3) := by decide +kernel
theorem dX8_count_99 : decode cX8_count 99 = .ok (.ireturn, 1) := by decide +kernel
theorem dX8_count_100 : decode cX8_count 100 = .ok (.aload_n 0, 1) := by decide +kernel
theorem dX8_count_101 : decode cX8_count 101 = .ok (.getfield 19, 3) := by decide +kernel
theorem dX8_count_104 : decode cX8_count 104 = .ok (.getfield 225, 3) := by decide +kernel
theorem dX8_count_107 : decode cX8_count 107 = .ok (.ireturn, 1) := by decide +kernel
theorem dX8_count_108 : decode cX8_count 108 = .ok (.aload_n 0, 1) := by decide +kernel
theorem dX8_count_109 : decode cX8_count 109 = .ok (.getfield 19, 3) := by decide +kernel
theorem dX8_count_112 : decode cX8_count 112 = .ok (.getfield 228, 3) := by decide +kernel
theorem dX8_count_115 : decode cX8_count 115 = .ok (.ireturn, 1) := by decide +kernel
theorem dX8_count_116 : decode cX8_count 116 = .ok (.aload_n 0, 1) := by decide +kernel
theorem dX8_count_117 : decode cX8_count 117 = .ok (.getfield 19, 3) := by decide +kernel
theorem dX8_count_120 : decode cX8_count 120 = .ok (.getfield 231, 3) := by decide +kernel
theorem dX8_count_123 : decode cX8_count 123 = .ok (.ireturn, 1) := by decide +kernel
theorem dX8_count_124 : decode cX8_count 124 = .ok (.aload_n 0, 1) := by decide +kernel
theorem dX8_count_125 : decode cX8_count 125 = .ok (.getfield 38, 3) := by decide +kernel
theorem dX8_count_128 : decode cX8_count 128 = .ok (.invokevirtual 200, 3) := by decide +kernel
theorem dX8_count_131 : decode cX8_count 131 = .ok (.invokevirtual 234, 3) := by decide +kernel
theorem dX8_count_134 : decode cX8_count 134 = .ok (.ireturn, 1) := by decide +kernel
theorem dX8_count_135 : decode cX8_count 135 = .ok (.aload_n 0, 1) := by decide +kernel
theorem dX8_count_136 : decode cX8_count 136 = .ok (.getfield 19, 3) := by decide +kernel
theorem dX8_count_139 : decode cX8_count 139 = .ok (.aload_n 0, 1) := by decide +kernel
theorem dX8_count_140 : decode cX8_count 140 = .ok (.getfield 38, 3) := by decide +kernel
theorem dX8_count_143 : decode cX8_count 143 = .ok (.invokevirtual 200, 3) := by decide +kernel
theorem dX8_count_146 : decode cX8_count 146 = .ok (.invokevirtual 237, 3) := by decide +kernel
theorem dX8_count_149 : decode cX8_count 149 = .ok (.ifCond .eq 7, 3) := by decide +kernel
theorem dX8_count_152 : decode cX8_count 152 = .ok (.iconst 1, 1) := by decide +kernel
theorem dX8_count_153 : decode cX8_count 153 = .ok (.goto 4, 3) := by decide +kernel
theorem dX8_count_156 : decode cX8_count 156 = .ok (.iconst 0, 1) := by decide +kernel
theorem dX8_count_157 : decode cX8_count 157 = .ok (.ireturn, 1) := by decide +kernel
theorem dX8_count_158 : decode cX8_count 158 = .ok (.aload_n 0, 1) := by decide +kernel
theorem dX8_count_159 : decode cX8_count 159 = .ok (.getfield 38, 3) := by decide +kernel
theorem dX8_count_162 : decode cX8_count 162 = .ok (.invokevirtual 241, 3) := by decide +kernel
theorem dX8_count_165 : decode cX8_count 165 = .ok (.ireturn, 1) := by decide +kernel
theorem dX8_count_166 : decode cX8_count 166 = .ok (.aload_n 0, 1) := by decide +kernel
theorem dX8_count_167 : decode cX8_count 167 = .ok (.getfield 38, 3) := by decide +kernel
theorem dX8_count_170 : decode cX8_count 170 = .ok (.invokevirtual 243, 3) := by decide +kernel
theorem dX8_count_173 : decode cX8_count 173 = .ok (.ireturn, 1) := by decide +kernel
theorem dX8_count_174 : decode cX8_count 174 = .ok (.aload_n 0, 1) := by decide +kernel
theorem dX8_count_175 : decode cX8_count 175 = .ok (.getfield 54, 3) := by decide +kernel
theorem dX8_count_178 : decode cX8_count 178 = .ok (.getfield 147, 3) := by decide +kernel
theorem dX8_count_181 : decode cX8_count 181 = .ok (.ireturn, 1) := by decide +kernel
theorem dX8_count_182 : decode cX8_count 182 = .ok (.aload_n 0, 1) := by decide +kernel
theorem dX8_count_183 : decode cX8_count 183 = .ok (.getfield 10, 3) := by decide +kernel
theorem dX8_count_186 : decode cX8_count 186 = .ok (.getfield 95, 3) := by decide +kernel
theorem dX8_count_189 : decode cX8_count 189 = .ok (.ireturn, 1) := by decide +kernel
theorem dX8_count_190 : decode cX8_count 190 = .ok (.iconst (-1), 1) := by decide +kernel
theorem dX8_count_191 : decode cX8_count 191 = .ok (.ireturn, 1) := by decide +kernel
set_option maxRecDepth 20000 in
theorem ggX8_isHeap_X8_isWithin : GoodIn wsX8_isHeap wsX8_isWithin := goodIn_r _ [6] (by decide +kernel) (by decide +kernel)
set_option maxRecDepth 20000 in
theorem gX8_isHeap_X8_isWithin : GoodIn wsX8_isHeap (va_wsS RX8 91 yX8_isWithin wsX8_isWithin) := goodIn_app (goodIn_of _ (by decide +kernel)) ggX8_isHeap_X8_isWithin
theorem dX8_isHeap_0 : decode cX8_isHeap 0 = .ok (.iload_n 1, 1) := by decide +kernel
theorem dX8_isHeap_1 : decode cX8_isHeap 1 = .ok (.iconst 0, 1) := by decide +kernel
theorem dX8_isHeap_2 : decode cX8_isHeap 2 = .ok (.aload_n 0, 1) := by decide +kernel
theorem dX8_isHeap_3 : decode cX8_isHeap 3 = .ok (.getfield 19, 3) := by decide +kernel
theorem dX8_isHeap_6 : decode cX8_isHeap 6 = .ok (.getfield 99, 3) := by decide +kernel
theorem dX8_isHeap_9 : decode cX8_isHeap 9 = .ok (.iconst 1, 1) := by decide +kernel
theorem dX8_isHeap_10 : decode cX8_isHeap 10 = .ok (.isub, 1) := by decide +kernel
theorem dX8_isHeap_11 : decode cX8_isHeap 11 = .ok (.invokestatic 91, 3) := by decide +kernel
theorem dX8_isHeap_14 : decode cX8_isHeap 14 = .ok (.ireturn, 1) := by decide +kernel
set_option maxRecDepth 20000 in
theorem ggX8_isCourse_X8_isWithin : GoodIn wsX8_isCourse wsX8_isWithin := goodIn_r _ [6] (by decide +kernel) (by decide +kernel)
set_option maxRecDepth 20000 in
theorem gX8_isCourse_X8_isWithin : GoodIn wsX8_isCourse (va_wsS RX8 91 yX8_isWithin wsX8_isWithin) := goodIn_app (goodIn_of _ (by decide +kernel)) ggX8_isCourse_X8_isWithin
theorem dX8_isCourse_0 : decode cX8_isCourse 0 = .ok (.iload_n 1, 1) := by decide +kernel
theorem dX8_isCourse_1 : decode cX8_isCourse 1 = .ok (.iconst 0, 1) := by decide +kernel
theorem dX8_isCourse_2 : decode cX8_isCourse 2 = .ok (.aload_n 0, 1) := by decide +kernel
theorem dX8_isCourse_3 : decode cX8_isCourse 3 = .ok (.getfield 38, 3) := by decide +kernel
theorem dX8_isCourse_6 : decode cX8_isCourse 6 = .ok (.getfield 124, 3) := by decide +kernel
theorem dX8_isCourse_9 : decode cX8_isCourse 9 = .ok (.iconst 1, 1) := by decide +kernel
theorem dX8_isCourse_10 : decode cX8_isCourse 10 = .ok (.isub, 1) := by decide +kernel
theorem dX8_isCourse_11 : decode cX8_isCourse 11 = .ok (.invokestatic 91, 3) := by decide +kernel
theorem dX8_isCourse_14 : decode cX8_isCourse 14 = .ok (.ireturn, 1) := by decide +kernel
set_option maxRecDepth 20000 in
theorem ggX8_fillTrial_X6_last : GoodIn wsX8_fillTrial wsX6_last := goodIn_r _ [10, 11, 12, 13, 140, 141, 142, 143, 144] (by decide +kernel) (by decide +kernel)
set_option maxRecDepth 20000 in
theorem gX8_fillTrial_X6_last : GoodIn wsX8_fillTrial (wsV RX8 200 RX6 yX6_last wsX6_last) := goodIn_app (goodIn_of _ (by decide +kernel)) ggX8_fillTrial_X6_last
set_option maxRecDepth 20000 in
theorem ggX8_fillTrial_X6_isOpen : GoodIn wsX8_fillTrial wsX6_isOpen := goodIn_r _ [17, 11, 18, 19, 7, 8, 9, 10, 12, 13, 20, 21, 22, 23, 24, 25, 26, 27, 28, 29, 30, 31, 32, 140, 141, 142, 143, 144, 145, 146, 147, 148, 149, 150, 151, 152, 153, 131, 132, 133, 134, 135, 136, 137, 138, 139] (by decide +kernel) (by decide +kernel)
set_option maxRecDepth 20000 in
theorem gX8_fillTrial_X6_isOpen : GoodIn wsX8_fillTrial (wsV RX8 196 RX6 yX6_isOpen wsX6_isOpen) := goodIn_app (goodIn_of _ (by decide +kernel)) ggX8_fillTrial_X6_isOpen
set_option maxRecDepth 20000 in
theorem ggX8_fillTrial_X4_fill : GoodIn wsX8_fillTrial wsX4_fill := goodIn_r _ [37, 38, 39, 40, 41, 42, 43, 44, 45, 46, 47, 27, 28, 29, 30, 31, 32, 48, 49, 50, 23, 51, 52, 53, 54, 55, 56, 57, 58, 59, 60, 61, 62, 63, 64, 65, 66, 67, 68, 69, 70, 71, 72, 73, 74, 75, 76, 77, 78, 79, 36, 80, 81, 82, 83, 84, 85, 86, 87, 88, 89, 90, 91, 92, 93, 94, 95, 96, 97, 98, 99, 100, 101, 102, 103, 104, 105, 106, 107, 108, 109, 110, 111, 112, 113, 114, 115, 116, 117, 118, 119, 120, 121, 122, 154, 155, 131, 132, 133, 134, 135, 136, 137, 138, 139, 145, 146, 147, 148, 149, 150, 151, 152, 153] (by decide +kernel) (by decide +kernel)
set_option maxRecDepth 20000 in
theorem gX8_fillTrial_X4_fill : GoodIn wsX8_fillTrial (wsV RX8 246 RX4 yX4_fill wsX4_fill) := goodIn_app (goodIn_of _ (by decide +kernel)) ggX8_fillTrial_X4_fill
theorem dX8_fillTrial_0 : decode cX8_fillTrial 0 = .ok (.aload_n 0, 1) := by decide +kernel
theorem dX8_fillTrial_1 : decode cX8_fillTrial 1 = .ok (.getfield 38, 3) := by decide +kernel
theorem dX8_fillTrial_4 : decode cX8_fillTrial 4 = .ok (.invokevirtual 200, 3) := by decide +kernel
theorem dX8_fillTrial_7 : decode cX8_fillTrial 7 = .ok (.astore_n 2, 1) := by decide +kernel
theorem dX8_fillTrial_8 : decode cX8_fillTrial 8 = .ok (.aload_n 0, 1) := by decide +kernel
theorem dX8_fillTrial_9 : decode cX8_fillTrial 9 = .ok (.getfield 38, 3) := by decide +kernel
theorem dX8_fillTrial_12 : decode cX8_fillTrial 12 = .ok (.invokevirtual 196, 3) := by decide +kernel
theorem dX8_fillTrial_15 : decode cX8_fillTrial 15 = .ok (.ifCond .eq 38, 3) := by decide +kernel
theorem dX8_fillTrial_18 : decode cX8_fillTrial 18 = .ok (.iload_n 1, 1) := by decide +kernel
theorem dX8_fillTrial_19 : decode cX8_fillTrial 19 = .ok (.aload_n 2, 1) := by decide +kernel
theorem dX8_fillTrial_20 : decode cX8_fillTrial 20 = .ok (.getfield 164, 3) := by decide +kernel
theorem dX8_fillTrial_23 : decode cX8_fillTrial 23 = .ok (.if_icmp .gt 30, 3) := by decide +kernel
theorem dX8_fillTrial_26 : decode cX8_fillTrial 26 = .ok (.aload_n 0, 1) := by decide +kernel
theorem dX8_fillTrial_27 : decode cX8_fillTrial 27 = .ok (.getfield 31, 3) := by decide +kernel
theorem dX8_fillTrial_30 : decode cX8_fillTrial 30 = .ok (.aload_n 0, 1) := by decide +kernel
theorem dX8_fillTrial_31 : decode cX8_fillTrial 31 = .ok (.getfield 61, 3) := by decide +kernel
theorem dX8_fillTrial_34 : decode cX8_fillTrial 34 = .ok (.iload_n 1, 1) := by decide +kernel
theorem dX8_fillTrial_35 : decode cX8_fillTrial 35 = .ok (.aload_n 0, 1) := by decide +kernel
theorem dX8_fillTrial_36 : decode cX8_fillTrial 36 = .ok (.getfield 38, 3) := by decide +kernel
theorem dX8_fillTrial_39 : decode cX8_fillTrial 39 = .ok (.getfield 132, 3) := by decide +kernel
theorem dX8_fillTrial_42 : decode cX8_fillTrial 42 = .ok (.aload_n 2, 1) := by decide +kernel
theorem dX8_fillTrial_43 : decode cX8_fillTrial 43 = .ok (.invokevirtual 246, 3) := by decide +kernel
theorem dX8_fillTrial_46 : decode cX8_fillTrial 46 = .ok (.ifCond .eq 7, 3) := by decide +kernel
theorem dX8_fillTrial_49 : decode cX8_fillTrial 49 = .ok (.iconst 1, 1) := by decide +kernel
theorem dX8_fillTrial_50 : decode cX8_fillTrial 50 = .ok (.goto 4, 3) := by decide +kernel
theorem dX8_fillTrial_53 : decode cX8_fillTrial 53 = .ok (.iconst 0, 1) := by decide +kernel
theorem dX8_fillTrial_54 : decode cX8_fillTrial 54 = .ok (.ireturn, 1) := by decide +kernel
theorem dX8_isWithin_0 : decode cX8_isWithin 0 = .ok (.iload_n 0, 1) := by decide +kernel
theorem dX8_isWithin_1 : decode cX8_isWithin 1 = .ok (.iload_n 1, 1) := by decide +kernel
theorem dX8_isWithin_2 : decode cX8_isWithin 2 = .ok (.if_icmp .lt 12, 3) := by decide +kernel
theorem dX8_isWithin_5 : decode cX8_isWithin 5 = .ok (.iload_n 0, 1) := by decide +kernel
theorem dX8_isWithin_6 : decode cX8_isWithin 6 = .ok (.iload_n 2, 1) := by decide +kernel
theorem dX8_isWithin_7 : decode cX8_isWithin 7 = .ok (.if_icmp .gt 7, 3) := by decide +kernel
theorem dX8_isWithin_10 : decode cX8_isWithin 10 = .ok (.iconst 1, 1) := by decide +kernel
theorem dX8_isWithin_11 : decode cX8_isWithin 11 = .ok (.goto 4, 3) := by decide +kernel
theorem dX8_isWithin_14 : decode cX8_isWithin 14 = .ok (.iconst 0, 1) := by decide +kernel
theorem dX8_isWithin_15 : decode cX8_isWithin 15 = .ok (.ireturn, 1) := by decide +kernel
set_option maxRecDepth 20000 in
theorem ggX9_init_X9_beginRead : GoodIn wsX9_init wsX9_beginRead := goodIn_r _ [19, 20, 7, 31, 32, 33, 34, 35, 36, 37, 38, 39, 40, 41, 42, 43, 44, 45, 46, 47, 48] (by decide +kernel) (by decide +kernel)
set_option maxRecDepth 20000 in
theorem gX9_init_X9_beginRead : GoodIn wsX9_init (wsV RX9 40 RX9 yX9_beginRead wsX9_beginRead) := goodIn_app (goodIn_of _ (by decide +kernel)) ggX9_init_X9_beginRead
set_option maxRecDepth 20000 in
theorem ggX9_init_X9_addHeap : GoodIn wsX9_init wsX9_addHeap := goodIn_r _ [24, 20, 9, 31, 32, 33, 34, 35, 36, 37, 38, 39, 40, 41, 42, 43, 44, 45, 46, 47, 48] (by decide +kernel) (by decide +kernel)
set_option maxRecDepth 20000 in
theorem gX9_init_X9_addHeap : GoodIn wsX9_init (wsV RX9 43 RX9 yX9_addHeap wsX9_addHeap) := goodIn_app (goodIn_of _ (by decide +kernel)) ggX9_init_X9_addHeap
set_option maxRecDepth 20000 in
theorem ggX9_init_X9_takeRead : GoodIn wsX9_init wsX9_takeRead := goodIn_r _ [28, 20, 29, 9, 8, 6, 7, 10, 30, 31, 32, 33, 34, 35, 36, 37, 38, 39, 40, 41, 42, 43, 44, 45, 46, 47, 48] (by decide +kernel) (by decide +kernel)
set_option maxRecDepth 20000 in
theorem gX9_init_X9_takeRead : GoodIn wsX9_init (wsV RX9 47 RX9 yX9_takeRead wsX9_takeRead) := goodIn_app (goodIn_of _ (by decide +kernel)) ggX9_init_X9_takeRead
theorem dX9_init_0 : decode cX9_init 0 = .ok (.aload_n 0, 1) := by decide +kernel
theorem dX9_init_1 : decode cX9_init 1 = .ok (.invokespecial 1, 3) := by decide +kernel
theorem dX9_init_4 : decode cX9_init 4 = .ok (.aload_n 0, 1) := by decide +kernel
theorem dX9_init_5 : decode cX9_init 5 = .ok (.sipush 200, 3) := by decide +kernel
theorem dX9_init_8 : decode cX9_init 8 = .ok (.newarray .int, 2) := by decide +kernel
theorem dX9_init_10 : decode cX9_init 10 = .ok (.putfield 7, 3) := by decide +kernel
theorem dX9_init_13 : decode cX9_init 13 = .ok (.aload_n 0, 1) := by decide +kernel
theorem dX9_init_14 : decode cX9_init 14 = .ok (.iconst 5, 1) := by decide +kernel
theorem dX9_init_15 : decode cX9_init 15 = .ok (.newarray .int, 2) := by decide +kernel
theorem dX9_init_17 : decode cX9_init 17 = .ok (.putfield 13, 3) := by decide +kernel
theorem dX9_init_20 : decode cX9_init 20 = .ok (.aload_n 0, 1) := by decide +kernel
theorem dX9_init_21 : decode cX9_init 21 = .ok (.iconst 5, 1) := by decide +kernel
theorem dX9_init_22 : decode cX9_init 22 = .ok (.newarray .int, 2) := by decide +kernel
theorem dX9_init_24 : decode cX9_init 24 = .ok (.putfield 16, 3) := by decide +kernel
theorem dX9_init_27 : decode cX9_init 27 = .ok (.aload_n 0, 1) := by decide +kernel
theorem dX9_init_28 : decode cX9_init 28 = .ok (.bipush 24, 2) := by decide +kernel
theorem dX9_init_30 : decode cX9_init 30 = .ok (.newarray .int, 2) := by decide +kernel
theorem dX9_init_32 : decode cX9_init 32 = .ok (.putfield 19, 3) := by decide +kernel
theorem dX9_init_35 : decode cX9_init 35 = .ok (.aload_n 0, 1) := by decide +kernel
theorem dX9_init_36 : decode cX9_init 36 = .ok (.bipush 24, 2) := by decide +kernel
theorem dX9_init_38 : decode cX9_init 38 = .ok (.newarray .int, 2) := by decide +kernel
theorem dX9_init_40 : decode cX9_init 40 = .ok (.putfield 22, 3) := by decide +kernel
theorem dX9_init_43 : decode cX9_init 43 = .ok (.aload_n 0, 1) := by decide +kernel
theorem dX9_init_44 : decode cX9_init 44 = .ok (.sipush 1249, 3) := by decide +kernel
theorem dX9_init_47 : decode cX9_init 47 = .ok (.newarray .int, 2) := by decide +kernel
theorem dX9_init_49 : decode cX9_init 49 = .ok (.putfield 25, 3) := by decide +kernel
theorem dX9_init_52 : decode cX9_init 52 = .ok (.aload_n 0, 1) := by decide +kernel
theorem dX9_init_53 : decode cX9_init 53 = .ok (.sipush 1249, 3) := by decide +kernel
theorem dX9_init_56 : decode cX9_init 56 = .ok (.newarray .int, 2) := by decide +kernel
theorem dX9_init_58 : decode cX9_init 58 = .ok (.putfield 28, 3) := by decide +kernel
theorem dX9_init_61 : decode cX9_init 61 = .ok (.aload_n 0, 1) := by decide +kernel
theorem dX9_init_62 : decode cX9_init 62 = .ok (.sipush 7494, 3) := by decide +kernel
theorem dX9_init_65 : decode cX9_init 65 = .ok (.newarray .int, 2) := by decide +kernel
theorem dX9_init_67 : decode cX9_init 67 = .ok (.putfield 31, 3) := by decide +kernel
theorem dX9_init_70 : decode cX9_init 70 = .ok (.aload_n 0, 1) := by decide +kernel
theorem dX9_init_71 : decode cX9_init 71 = .ok (.iconst 3, 1) := by decide +kernel
theorem dX9_init_72 : decode cX9_init 72 = .ok (.newarray .int, 2) := by decide +kernel
theorem dX9_init_74 : decode cX9_init 74 = .ok (.putfield 34, 3) := by decide +kernel
theorem dX9_init_77 : decode cX9_init 77 = .ok (.aload_n 0, 1) := by decide +kernel
theorem dX9_init_78 : decode cX9_init 78 = .ok (.bipush 60, 2) := by decide +kernel
theorem dX9_init_80 : decode cX9_init 80 = .ok (.newarray .int, 2) := by decide +kernel
theorem dX9_init_82 : decode cX9_init 82 = .ok (.putfield 37, 3) := by decide +kernel
theorem dX9_init_85 : decode cX9_init 85 = .ok (.aload_n 0, 1) := by decide +kernel
theorem dX9_init_86 : decode cX9_init 86 = .ok (.invokevirtual 40, 3) := by decide +kernel
theorem dX9_init_89 : decode cX9_init 89 = .ok (.aload_n 0, 1) := by decide +kernel
theorem dX9_init_90 : decode cX9_init 90 = .ok (.bipush 40, 2) := by decide +kernel
theorem dX9_init_92 : decode cX9_init 92 = .ok (.bipush 30, 2) := by decide +kernel
theorem dX9_init_94 : decode cX9_init 94 = .ok (.bipush 30, 2) := by decide +kernel
theorem dX9_init_96 : decode cX9_init 96 = .ok (.invokevirtual 43, 3) := by decide +kernel
theorem dX9_init_99 : decode cX9_init 99 = .ok (.pop, 1) := by decide +kernel
theorem dX9_init_100 : decode cX9_init 100 = .ok (.aload_n 0, 1) := by decide +kernel
theorem dX9_init_101 : decode cX9_init 101 = .ok (.bipush 40, 2) := by decide +kernel
theorem dX9_init_103 : decode cX9_init 103 = .ok (.bipush 22, 2) := by decide +kernel
theorem dX9_init_105 : decode cX9_init 105 = .ok (.bipush 30, 2) := by decide +kernel
theorem dX9_init_107 : decode cX9_init 107 = .ok (.invokevirtual 43, 3) := by decide +kernel
theorem dX9_init_110 : decode cX9_init 110 = .ok (.pop, 1) := by decide +kernel
theorem dX9_init_111 : decode cX9_init 111 = .ok (.aload_n 0, 1) := by decide +kernel
theorem dX9_init_112 : decode cX9_init 112 = .ok (.bipush 40, 2) := by decide +kernel
theorem dX9_init_114 : decode cX9_init 114 = .ok (.bipush 17, 2) := by decide +kernel
theorem dX9_init_116 : decode cX9_init 116 = .ok (.bipush 9, 2) := by decide +kernel
theorem dX9_init_118 : decode cX9_init 118 = .ok (.invokevirtual 43, 3) := by decide +kernel
theorem dX9_init_121 : decode cX9_init 121 = .ok (.pop, 1) := by decide +kernel
theorem dX9_init_122 : decode cX9_init 122 = .ok (.aload_n 0, 1) := by decide +kernel
theorem dX9_init_123 : decode cX9_init 123 = .ok (.bipush 30, 2) := by decide +kernel
theorem dX9_init_125 : decode cX9_init 125 = .ok (.bipush 25, 2) := by decide +kernel
theorem dX9_init_127 : decode cX9_init 127 = .ok (.bipush 40, 2) := by decide +kernel
theorem dX9_init_129 : decode cX9_init 129 = .ok (.invokevirtual 43, 3) := by decide +kernel
theorem dX9_init_132 : decode cX9_init 132 = .ok (.pop, 1) := by decide +kernel
theorem dX9_init_133 : decode cX9_init 133 = .ok (.aload_n 0, 1) := by decide +kernel
theorem dX9_init_134 : decode cX9_init 134 = .ok (.bipush 30, 2) := by decide +kernel
theorem dX9_init_136 : decode cX9_init 136 = .ok (.bipush 18, 2) := by decide +kernel
theorem dX9_init_138 : decode cX9_init 138 = .ok (.bipush 40, 2) := by decide +kernel
theorem dX9_init_140 : decode cX9_init 140 = .ok (.invokevirtual 43, 3) := by decide +kernel
theorem dX9_init_143 : decode cX9_init 143 = .ok (.pop, 1) := by decide +kernel
theorem dX9_init_144 : decode cX9_init 144 = .ok (.aload_n 0, 1) := by decide +kernel
theorem dX9_init_145 : decode cX9_init 145 = .ok (.bipush 24, 2) := by decide +kernel
theorem dX9_init_147 : decode cX9_init 147 = .ok (.bipush 20, 2) := by decide +kernel
theorem dX9_init_149 : decode cX9_init 149 = .ok (.bipush 60, 2) := by decide +kernel
theorem dX9_init_151 : decode cX9_init 151 = .ok (.invokevirtual 43, 3) := by decide +kernel
theorem dX9_init_154 : decode cX9_init 154 = .ok (.pop, 1) := by decide +kernel
theorem dX9_init_155 : decode cX9_init 155 = .ok (.aload_n 0, 1) := by decide +kernel
theorem dX9_init_156 : decode cX9_init 156 = .ok (.bipush 24, 2) := by decide +kernel
theorem dX9_init_158 : decode cX9_init 158 = .ok (.bipush 11, 2) := by decide +kernel
theorem dX9_init_160 : decode cX9_init 160 = .ok (.bipush 30, 2) := by decide +kernel
theorem dX9_init_162 : decode cX9_init 162 = .ok (.invokevirtual 43, 3) := by decide +kernel
theorem dX9_init_165 : decode cX9_init 165 = .ok (.pop, 1) := by decide +kernel
theorem dX9_init_166 : decode cX9_init 166 = .ok (.aload_n 0, 1) := by decide +kernel
theorem dX9_init_167 : decode cX9_init 167 = .ok (.getfield 16, 3) := by decide +kernel
theorem dX9_init_170 : decode cX9_init 170 = .ok (.iconst 0, 1) := by decide +kernel
theorem dX9_init_171 : decode cX9_init 171 = .ok (.bipush 110, 2) := by decide +kernel
theorem dX9_init_173 : decode cX9_init 173 = .ok (.iastore, 1) := by decide +kernel
theorem dX9_init_174 : decode cX9_init 174 = .ok (.aload_n 0, 1) := by decide +kernel
theorem dX9_init_175 : decode cX9_init 175 = .ok (.getfield 16, 3) := by decide +kernel
theorem dX9_init_178 : decode cX9_init 178 = .ok (.iconst 1, 1) := by decide +kernel
theorem dX9_init_179 : decode cX9_init 179 = .ok (.sipush 130, 3) := by decide +kernel
theorem dX9_init_182 : decode cX9_init 182 = .ok (.iastore, 1) := by decide +kernel
theorem dX9_init_183 : decode cX9_init 183 = .ok (.aload_n 0, 1) := by decide +kernel
theorem dX9_init_184 : decode cX9_init 184 = .ok (.getfield 16, 3) := by decide +kernel
theorem dX9_init_187 : decode cX9_init 187 = .ok (.iconst 4, 1) := by decide +kernel
theorem dX9_init_188 : decode cX9_init 188 = .ok (.iconst 2, 1) := by decide +kernel
theorem dX9_init_189 : decode cX9_init 189 = .ok (.iastore, 1) := by decide +kernel
theorem dX9_init_190 : decode cX9_init 190 = .ok (.aload_n 0, 1) := by decide +kernel
theorem dX9_init_191 : decode cX9_init 191 = .ok (.invokevirtual 47, 3) := by decide +kernel
theorem dX9_init_194 : decode cX9_init 194 = .ok (.return_, 1) := by decide +kernel
theorem dX9_in_0 : decode cX9_in 0 = .ok (.iload_n 0, 1) := by decide +kernel
theorem dX9_in_1 : decode cX9_in 1 = .ok (.iload_n 1, 1) := by decide +kernel
theorem dX9_in_2 : decode cX9_in 2 = .ok (.if_icmp .lt 12, 3) := by decide +kernel
theorem dX9_in_5 : decode cX9_in 5 = .ok (.iload_n 0, 1) := by decide +kernel
theorem dX9_in_6 : decode cX9_in 6 = .ok (.iload_n 2, 1) := by decide +kernel
theorem dX9_in_7 : decode cX9_in 7 = .ok (.if_icmp .gt 7, 3) := by decide +kernel
theorem dX9_in_10 : decode cX9_in 10 = .ok (.iconst 1, 1) := by decide +kernel
theorem dX9_in_11 : decode cX9_in 11 = .ok (.goto 4, 3) := by decide +kernel
theorem dX9_in_14 : decode cX9_in 14 = .ok (.iconst 0, 1) := by decide +kernel
theorem dX9_in_15 : decode cX9_in 15 = .ok (.ireturn, 1) := by decide +kernel
theorem dX9_copyState_0 : decode cX9_copyState 0 = .ok (.iconst 0, 1) := by decide +kernel
theorem dX9_copyState_1 : decode cX9_copyState 1 = .ok (.istore 4, 2) := by decide +kernel
theorem dX9_copyState_3 : decode cX9_copyState 3 = .ok (.iload 4, 2) := by decide +kernel
theorem dX9_copyState_5 : decode cX9_copyState 5 = .ok (.sipush 1249, 3) := by decide +kernel
theorem dX9_copyState_8 : decode cX9_copyState 8 = .ok (.if_icmp .ge 21, 3) := by decide +kernel
theorem dX9_copyState_11 : decode cX9_copyState 11 = .ok (.aload_n 2, 1) := by decide +kernel
theorem dX9_copyState_12 : decode cX9_copyState 12 = .ok (.iload_n 3, 1) := by decide +kernel
theorem dX9_copyState_13 : decode cX9_copyState 13 = .ok (.iload 4, 2) := by decide +kernel
theorem dX9_copyState_15 : decode cX9_copyState 15 = .ok (.iadd, 1) := by decide +kernel
theorem dX9_copyState_16 : decode cX9_copyState 16 = .ok (.aload_n 0, 1) := by decide +kernel
theorem dX9_copyState_17 : decode cX9_copyState 17 = .ok (.iload_n 1, 1) := by decide +kernel
theorem dX9_copyState_18 : decode cX9_copyState 18 = .ok (.iload 4, 2) := by decide +kernel
theorem dX9_copyState_20 : decode cX9_copyState 20 = .ok (.iadd, 1) := by decide +kernel
theorem dX9_copyState_21 : decode cX9_copyState 21 = .ok (.iaload, 1) := by decide +kernel
theorem dX9_copyState_22 : decode cX9_copyState 22 = .ok (.iastore, 1) := by decide +kernel
theorem dX9_copyState_23 : decode cX9_copyState 23 = .ok (.iinc 4 1, 3) := by decide +kernel
theorem dX9_copyState_26 : decode cX9_copyState 26 = .ok (.goto (-23), 3) := by decide +kernel
theorem dX9_copyState_29 : decode cX9_copyState 29 = .ok (.return_, 1) := by decide +kernel
theorem dX9_beginRead_0 : decode cX9_beginRead 0 = .ok (.aload_n 0, 1) := by decide +kernel
theorem dX9_beginRead_1 : decode cX9_beginRead 1 = .ok (.iconst 0, 1) := by decide +kernel
theorem dX9_beginRead_2 : decode cX9_beginRead 2 = .ok (.putfield 50, 3) := by decide +kernel
theorem dX9_beginRead_5 : decode cX9_beginRead 5 = .ok (.aload_n 0, 1) := by decide +kernel
theorem dX9_beginRead_6 : decode cX9_beginRead 6 = .ok (.getfield 16, 3) := by decide +kernel
theorem dX9_beginRead_9 : decode cX9_beginRead 9 = .ok (.iconst 0, 1) := by decide +kernel
theorem dX9_beginRead_10 : decode cX9_beginRead 10 = .ok (.bipush 100, 2) := by decide +kernel
theorem dX9_beginRead_12 : decode cX9_beginRead 12 = .ok (.iastore, 1) := by decide +kernel
theorem dX9_beginRead_13 : decode cX9_beginRead 13 = .ok (.aload_n 0, 1) := by decide +kernel
theorem dX9_beginRead_14 : decode cX9_beginRead 14 = .ok (.getfield 16, 3) := by decide +kernel
theorem dX9_beginRead_17 : decode cX9_beginRead 17 = .ok (.iconst 1, 1) := by decide +kernel
theorem dX9_beginRead_18 : decode cX9_beginRead 18 = .ok (.bipush 120, 2) := by decide +kernel
theorem dX9_beginRead_20 : decode cX9_beginRead 20 = .ok (.iastore, 1) := by decide +kernel
theorem dX9_beginRead_21 : decode cX9_beginRead 21 = .ok (.aload_n 0, 1) := by decide +kernel
theorem dX9_beginRead_22 : decode cX9_beginRead 22 = .ok (.getfield 16, 3) := by decide +kernel
theorem dX9_beginRead_25 : decode cX9_beginRead 25 = .ok (.iconst 2, 1) := by decide +kernel
theorem dX9_beginRead_26 : decode cX9_beginRead 26 = .ok (.bipush 6, 2) := by decide +kernel
theorem dX9_beginRead_28 : decode cX9_beginRead 28 = .ok (.iastore, 1) := by decide +kernel
theorem dX9_beginRead_29 : decode cX9_beginRead 29 = .ok (.aload_n 0, 1) := by decide +kernel
theorem dX9_beginRead_30 : decode cX9_beginRead 30 = .ok (.getfield 16, 3) := by decide +kernel
theorem dX9_beginRead_33 : decode cX9_beginRead 33 = .ok (.iconst 3, 1) := by decide +kernel
theorem dX9_beginRead_34 : decode cX9_beginRead 34 = .ok (.iconst 4, 1) := by decide +kernel
theorem dX9_beginRead_35 : decode cX9_beginRead 35 = .ok (.iastore, 1) := by decide +kernel
theorem dX9_beginRead_36 : decode cX9_beginRead 36 = .ok (.aload_n 0, 1) := by decide +kernel
theorem dX9_beginRead_37 : decode cX9_beginRead 37 = .ok (.getfield 16, 3) := by decide +kernel
theorem dX9_beginRead_40 : decode cX9_beginRead 40 = .ok (.iconst 4, 1) := by decide +kernel
theorem dX9_beginRead_41 : decode cX9_beginRead 41 = .ok (.iconst 0, 1) := by decide +kernel
theorem dX9_beginRead_42 : decode cX9_beginRead 42 = .ok (.iastore, 1) := by decide +kernel
theorem dX9_beginRead_43 : decode cX9_beginRead 43 = .ok (.return_, 1) := by decide +kernel
theorem dX9_addHeap_0 : decode cX9_addHeap 0 = .ok (.iconst 0, 1) := by decide +kernel
theorem dX9_addHeap_1 : decode cX9_addHeap 1 = .ok (.istore 4, 2) := by decide +kernel
theorem dX9_addHeap_3 : decode cX9_addHeap 3 = .ok (.iload 4, 2) := by decide +kernel
theorem dX9_addHeap_5 : decode cX9_addHeap 5 = .ok (.aload_n 0, 1) := by decide +kernel
theorem dX9_addHeap_6 : decode cX9_addHeap 6 = .ok (.getfield 50, 3) := by decide +kernel
theorem dX9_addHeap_9 : decode cX9_addHeap 9 = .ok (.if_icmp .ge 37, 3) := by decide +kernel
theorem dX9_addHeap_12 : decode cX9_addHeap 12 = .ok (.aload_n 0, 1) := by decide +kernel
theorem dX9_addHeap_13 : decode cX9_addHeap 13 = .ok (.getfield 22, 3) := by decide +kernel
theorem dX9_addHeap_16 : decode cX9_addHeap 16 = .ok (.iconst 3, 1) := by decide +kernel
theorem dX9_addHeap_17 : decode cX9_addHeap 17 = .ok (.iload 4, 2) := by decide +kernel
theorem dX9_addHeap_19 : decode cX9_addHeap 19 = .ok (.imul, 1) := by decide +kernel
theorem dX9_addHeap_20 : decode cX9_addHeap 20 = .ok (.iaload, 1) := by decide +kernel
theorem dX9_addHeap_21 : decode cX9_addHeap 21 = .ok (.iload_n 1, 1) := by decide +kernel
theorem dX9_addHeap_22 : decode cX9_addHeap 22 = .ok (.if_icmp .ne 18, 3) := by decide +kernel
theorem dX9_addHeap_25 : decode cX9_addHeap 25 = .ok (.aload_n 0, 1) := by decide +kernel
theorem dX9_addHeap_26 : decode cX9_addHeap 26 = .ok (.getfield 22, 3) := by decide +kernel
theorem dX9_addHeap_29 : decode cX9_addHeap 29 = .ok (.iconst 3, 1) := by decide +kernel
theorem dX9_addHeap_30 : decode cX9_addHeap 30 = .ok (.iload 4, 2) := by decide +kernel
theorem dX9_addHeap_32 : decode cX9_addHeap 32 = .ok (.imul, 1) := by decide +kernel
theorem dX9_addHeap_33 : decode cX9_addHeap 33 = .ok (.iconst 1, 1) := by decide +kernel
theorem dX9_addHeap_34 : decode cX9_addHeap 34 = .ok (.iadd, 1) := by decide +kernel
theorem dX9_addHeap_35 : decode cX9_addHeap 35 = .ok (.iaload, 1) := by decide +kernel
theorem dX9_addHeap_36 : decode cX9_addHeap 36 = .ok (.iload_n 2, 1) := by decide +kernel
theorem dX9_addHeap_37 : decode cX9_addHeap 37 = .ok (.if_icmp .eq 9, 3) := by decide +kernel
theorem dX9_addHeap_40 : decode cX9_addHeap 40 = .ok (.iinc 4 1, 3) := by decide +kernel
theorem dX9_addHeap_43 : decode cX9_addHeap 43 = .ok (.goto (-40), 3) := by decide +kernel
theorem dX9_addHeap_46 : decode cX9_addHeap 46 = .ok (.iload 4, 2) := by decide +kernel
theorem dX9_addHeap_48 : decode cX9_addHeap 48 = .ok (.bipush 8, 2) := by decide +kernel
theorem dX9_addHeap_50 : decode cX9_addHeap 50 = .ok (.if_icmp .eq 31, 3) := by decide +kernel
theorem dX9_addHeap_53 : decode cX9_addHeap 53 = .ok (.iload 4, 2) := by decide +kernel
theorem dX9_addHeap_55 : decode cX9_addHeap 55 = .ok (.aload_n 0, 1) := by decide +kernel
theorem dX9_addHeap_56 : decode cX9_addHeap 56 = .ok (.getfield 50, 3) := by decide +kernel
theorem dX9_addHeap_59 : decode cX9_addHeap 59 = .ok (.if_icmp .ge 24, 3) := by decide +kernel
theorem dX9_addHeap_62 : decode cX9_addHeap 62 = .ok (.aload_n 0, 1) := by decide +kernel
theorem dX9_addHeap_63 : decode cX9_addHeap 63 = .ok (.getfield 22, 3) := by decide +kernel
theorem dX9_addHeap_66 : decode cX9_addHeap 66 = .ok (.iconst 3, 1) := by decide +kernel
theorem dX9_addHeap_67 : decode cX9_addHeap 67 = .ok (.iload 4, 2) := by decide +kernel
theorem dX9_addHeap_69 : decode cX9_addHeap 69 = .ok (.imul, 1) := by decide +kernel
theorem dX9_addHeap_70 : decode cX9_addHeap 70 = .ok (.iconst 2, 1) := by decide +kernel
theorem dX9_addHeap_71 : decode cX9_addHeap 71 = .ok (.iadd, 1) := by decide +kernel
theorem dX9_addHeap_72 : decode cX9_addHeap 72 = .ok (.iaload, 1) := by decide +kernel
theorem dX9_addHeap_73 : decode cX9_addHeap 73 = .ok (.iload_n 3, 1) := by decide +kernel
theorem dX9_addHeap_74 : decode cX9_addHeap 74 = .ok (.iadd, 1) := by decide +kernel
theorem dX9_addHeap_75 : decode cX9_addHeap 75 = .ok (.sipush 999, 3) := by decide +kernel
theorem dX9_addHeap_78 : decode cX9_addHeap 78 = .ok (.if_icmp .le 5, 3) := by decide +kernel
theorem dX9_addHeap_81 : decode cX9_addHeap 81 = .ok (.iconst 0, 1) := by decide +kernel
theorem dX9_addHeap_82 : decode cX9_addHeap 82 = .ok (.ireturn, 1) := by decide +kernel
theorem dX9_addHeap_83 : decode cX9_addHeap 83 = .ok (.aload_n 0, 1) := by decide +kernel
theorem dX9_addHeap_84 : decode cX9_addHeap 84 = .ok (.getfield 22, 3) := by decide +kernel
theorem dX9_addHeap_87 : decode cX9_addHeap 87 = .ok (.iconst 3, 1) := by decide +kernel
theorem dX9_addHeap_88 : decode cX9_addHeap 88 = .ok (.iload 4, 2) := by decide +kernel
theorem dX9_addHeap_90 : decode cX9_addHeap 90 = .ok (.imul, 1) := by decide +kernel
theorem dX9_addHeap_91 : decode cX9_addHeap 91 = .ok (.iload_n 1, 1) := by decide +kernel
theorem dX9_addHeap_92 : decode cX9_addHeap 92 = .ok (.iastore, 1) := by decide +kernel
theorem dX9_addHeap_93 : decode cX9_addHeap 93 = .ok (.aload_n 0, 1) := by decide +kernel
theorem dX9_addHeap_94 : decode cX9_addHeap 94 = .ok (.getfield 22, 3) := by decide +kernel
theorem dX9_addHeap_97 : decode cX9_addHeap 97 = .ok (.iconst 3, 1) := by decide +kernel
theorem dX9_addHeap_98 : decode cX9_addHeap 98 = .ok (.iload 4, 2) := by decide +kernel
theorem dX9_addHeap_100 : decode cX9_addHeap 100 = .ok (.imul, 1) := by decide +kernel
theorem dX9_addHeap_101 : decode cX9_addHeap 101 = .ok (.iconst 1, 1) := by decide +kernel
theorem dX9_addHeap_102 : decode cX9_addHeap 102 = .ok (.iadd, 1) := by decide +kernel
theorem dX9_addHeap_103 : decode cX9_addHeap 103 = .ok (.iload_n 2, 1) := by decide +kernel
theorem dX9_addHeap_104 : decode cX9_addHeap 104 = .ok (.iastore, 1) := by decide +kernel
theorem dX9_addHeap_105 : decode cX9_addHeap 105 = .ok (.aload_n 0, 1) := by decide +kernel
theorem dX9_addHeap_106 : decode cX9_addHeap 106 = .ok (.getfield 22, 3) := by decide +kernel
theorem dX9_addHeap_109 : decode cX9_addHeap 109 = .ok (.iconst 3, 1) := by decide +kernel
theorem dX9_addHeap_110 : decode cX9_addHeap 110 = .ok (.iload 4, 2) := by decide +kernel
theorem dX9_addHeap_112 : decode cX9_addHeap 112 = .ok (.imul, 1) := by decide +kernel
theorem dX9_addHeap_113 : decode cX9_addHeap 113 = .ok (.iconst 2, 1) := by decide +kernel
theorem dX9_addHeap_114 : decode cX9_addHeap 114 = .ok (.iadd, 1) := by decide +kernel
theorem dX9_addHeap_115 : decode cX9_addHeap 115 = .ok (.iload 4, 2) := by decide +kernel
theorem dX9_addHeap_117 : decode cX9_addHeap 117 = .ok (.aload_n 0, 1) := by decide +kernel
theorem dX9_addHeap_118 : decode cX9_addHeap 118 = .ok (.getfield 50, 3) := by decide +kernel
theorem dX9_addHeap_121 : decode cX9_addHeap 121 = .ok (.if_icmp .ge 19, 3) := by decide +kernel
theorem dX9_addHeap_124 : decode cX9_addHeap 124 = .ok (.aload_n 0, 1) := by decide +kernel
theorem dX9_addHeap_125 : decode cX9_addHeap 125 = .ok (.getfield 22, 3) := by decide +kernel
theorem dX9_addHeap_128 : decode cX9_addHeap 128 = .ok (.iconst 3, 1) := by decide +kernel
theorem dX9_addHeap_129 : decode cX9_addHeap 129 = .ok (.iload 4, 2) := by decide +kernel
theorem dX9_addHeap_131 : decode cX9_addHeap 131 = .ok (.imul, 1) := by decide +kernel
theorem dX9_addHeap_132 : decode cX9_addHeap 132 = .ok (.iconst 2, 1) := by decide +kernel
theorem dX9_addHeap_133 : decode cX9_addHeap 133 = .ok (.iadd, 1) := by decide +kernel
theorem dX9_addHeap_134 : decode cX9_addHeap 134 = .ok (.iaload, 1) := by decide +kernel
theorem dX9_addHeap_135 : decode cX9_addHeap 135 = .ok (.iload_n 3, 1) := by decide +kernel
theorem dX9_addHeap_136 : decode cX9_addHeap 136 = .ok (.iadd, 1) := by decide +kernel
theorem dX9_addHeap_137 : decode cX9_addHeap 137 = .ok (.goto 4, 3) := by decide +kernel
theorem dX9_addHeap_140 : decode cX9_addHeap 140 = .ok (.iload_n 3, 1) := by decide +kernel
theorem dX9_addHeap_141 : decode cX9_addHeap 141 = .ok (.iastore, 1) := by decide +kernel
theorem dX9_addHeap_142 : decode cX9_addHeap 142 = .ok (.aload_n 0, 1) := by decide +kernel
theorem dX9_addHeap_143 : decode cX9_addHeap 143 = .ok (.iload 4, 2) := by decide +kernel
theorem dX9_addHeap_145 : decode cX9_addHeap 145 = .ok (.aload_n 0, 1) := by decide +kernel
theorem dX9_addHeap_146 : decode cX9_addHeap 146 = .ok (.getfield 50, 3) := by decide +kernel
theorem dX9_addHeap_149 : decode cX9_addHeap 149 = .ok (.if_icmp .ge 10, 3) := by decide +kernel
theorem dX9_addHeap_152 : decode cX9_addHeap 152 = .ok (.aload_n 0, 1) := by decide +kernel
theorem dX9_addHeap_153 : decode cX9_addHeap 153 = .ok (.getfield 50, 3) := by decide +kernel
theorem dX9_addHeap_156 : decode cX9_addHeap 156 = .ok (.goto 9, 3) := by decide +kernel
theorem dX9_addHeap_159 : decode cX9_addHeap 159 = .ok (.aload_n 0, 1) := by decide +kernel
theorem dX9_addHeap_160 : decode cX9_addHeap 160 = .ok (.getfield 50, 3) := by decide +kernel
theorem dX9_addHeap_163 : decode cX9_addHeap 163 = .ok (.iconst 1, 1) := by decide +kernel
theorem dX9_addHeap_164 : decode cX9_addHeap 164 = .ok (.iadd, 1) := by decide +kernel
theorem dX9_addHeap_165 : decode cX9_addHeap 165 = .ok (.putfield 50, 3) := by decide +kernel
theorem dX9_addHeap_168 : decode cX9_addHeap 168 = .ok (.iconst 1, 1) := by decide +kernel
theorem dX9_addHeap_169 : decode cX9_addHeap 169 = .ok (.ireturn, 1) := by decide +kernel
theorem dX9_takeRead_0 : decode cX9_takeRead 0 = .ok (.aload_n 0, 1) := by decide +kernel
theorem dX9_takeRead_1 : decode cX9_takeRead 1 = .ok (.aload_n 0, 1) := by decide +kernel
theorem dX9_takeRead_2 : decode cX9_takeRead 2 = .ok (.getfield 50, 3) := by decide +kernel
theorem dX9_takeRead_5 : decode cX9_takeRead 5 = .ok (.putfield 54, 3) := by decide +kernel
theorem dX9_takeRead_8 : decode cX9_takeRead 8 = .ok (.iconst 0, 1) := by decide +kernel
theorem dX9_takeRead_9 : decode cX9_takeRead 9 = .ok (.istore_n 1, 1) := by decide +kernel
theorem dX9_takeRead_10 : decode cX9_takeRead 10 = .ok (.iload_n 1, 1) := by decide +kernel
theorem dX9_takeRead_11 : decode cX9_takeRead 11 = .ok (.aload_n 0, 1) := by decide +kernel
theorem dX9_takeRead_12 : decode cX9_takeRead 12 = .ok (.getfield 50, 3) := by decide +kernel
theorem dX9_takeRead_15 : decode cX9_takeRead 15 = .ok (.if_icmp .ge 125, 3) := by decide +kernel
theorem dX9_takeRead_18 : decode cX9_takeRead 18 = .ok (.bipush 100, 2) := by decide +kernel
theorem dX9_takeRead_20 : decode cX9_takeRead 20 = .ok (.aload_n 0, 1) := by decide +kernel
theorem dX9_takeRead_21 : decode cX9_takeRead 21 = .ok (.getfield 22, 3) := by decide +kernel
theorem dX9_takeRead_24 : decode cX9_takeRead 24 = .ok (.iconst 3, 1) := by decide +kernel
theorem dX9_takeRead_25 : decode cX9_takeRead 25 = .ok (.iload_n 1, 1) := by decide +kernel
theorem dX9_takeRead_26 : decode cX9_takeRead 26 = .ok (.imul, 1) := by decide +kernel
theorem dX9_takeRead_27 : decode cX9_takeRead 27 = .ok (.iaload, 1) := by decide +kernel
theorem dX9_takeRead_28 : decode cX9_takeRead 28 = .ok (.imul, 1) := by decide +kernel
theorem dX9_takeRead_29 : decode cX9_takeRead 29 = .ok (.aload_n 0, 1) := by decide +kernel
theorem dX9_takeRead_30 : decode cX9_takeRead 30 = .ok (.getfield 22, 3) := by decide +kernel
theorem dX9_takeRead_33 : decode cX9_takeRead 33 = .ok (.iconst 3, 1) := by decide +kernel
theorem dX9_takeRead_34 : decode cX9_takeRead 34 = .ok (.iload_n 1, 1) := by decide +kernel
theorem dX9_takeRead_35 : decode cX9_takeRead 35 = .ok (.imul, 1) := by decide +kernel
theorem dX9_takeRead_36 : decode cX9_takeRead 36 = .ok (.iconst 1, 1) := by decide +kernel
theorem dX9_takeRead_37 : decode cX9_takeRead 37 = .ok (.iadd, 1) := by decide +kernel
theorem dX9_takeRead_38 : decode cX9_takeRead 38 = .ok (.iaload, 1) := by decide +kernel
theorem dX9_takeRead_39 : decode cX9_takeRead 39 = .ok (.iadd, 1) := by decide +kernel
theorem dX9_takeRead_40 : decode cX9_takeRead 40 = .ok (.istore_n 2, 1) := by decide +kernel
theorem dX9_takeRead_41 : decode cX9_takeRead 41 = .ok (.iconst 0, 1) := by decide +kernel
theorem dX9_takeRead_42 : decode cX9_takeRead 42 = .ok (.istore_n 3, 1) := by decide +kernel
theorem dX9_takeRead_43 : decode cX9_takeRead 43 = .ok (.iconst 0, 1) := by decide +kernel
theorem dX9_takeRead_44 : decode cX9_takeRead 44 = .ok (.istore 4, 2) := by decide +kernel
theorem dX9_takeRead_46 : decode cX9_takeRead 46 = .ok (.iload 4, 2) := by decide +kernel
theorem dX9_takeRead_48 : decode cX9_takeRead 48 = .ok (.aload_n 0, 1) := by decide +kernel
theorem dX9_takeRead_49 : decode cX9_takeRead 49 = .ok (.getfield 50, 3) := by decide +kernel
theorem dX9_takeRead_52 : decode cX9_takeRead 52 = .ok (.if_icmp .ge 45, 3) := by decide +kernel
theorem dX9_takeRead_55 : decode cX9_takeRead 55 = .ok (.iload_n 3, 1) := by decide +kernel
theorem dX9_takeRead_56 : decode cX9_takeRead 56 = .ok (.bipush 100, 2) := by decide +kernel
theorem dX9_takeRead_58 : decode cX9_takeRead 58 = .ok (.aload_n 0, 1) := by decide +kernel
theorem dX9_takeRead_59 : decode cX9_takeRead 59 = .ok (.getfield 22, 3) := by decide +kernel
theorem dX9_takeRead_62 : decode cX9_takeRead 62 = .ok (.iconst 3, 1) := by decide +kernel
theorem dX9_takeRead_63 : decode cX9_takeRead 63 = .ok (.iload 4, 2) := by decide +kernel
theorem dX9_takeRead_65 : decode cX9_takeRead 65 = .ok (.imul, 1) := by decide +kernel
theorem dX9_takeRead_66 : decode cX9_takeRead 66 = .ok (.iaload, 1) := by decide +kernel
theorem dX9_takeRead_67 : decode cX9_takeRead 67 = .ok (.imul, 1) := by decide +kernel
theorem dX9_takeRead_68 : decode cX9_takeRead 68 = .ok (.aload_n 0, 1) := by decide +kernel
theorem dX9_takeRead_69 : decode cX9_takeRead 69 = .ok (.getfield 22, 3) := by decide +kernel
theorem dX9_takeRead_72 : decode cX9_takeRead 72 = .ok (.iconst 3, 1) := by decide +kernel
theorem dX9_takeRead_73 : decode cX9_takeRead 73 = .ok (.iload 4, 2) := by decide +kernel
theorem dX9_takeRead_75 : decode cX9_takeRead 75 = .ok (.imul, 1) := by decide +kernel
theorem dX9_takeRead_76 : decode cX9_takeRead 76 = .ok (.iconst 1, 1) := by decide +kernel
theorem dX9_takeRead_77 : decode cX9_takeRead 77 = .ok (.iadd, 1) := by decide +kernel
theorem dX9_takeRead_78 : decode cX9_takeRead 78 = .ok (.iaload, 1) := by decide +kernel
theorem dX9_takeRead_79 : decode cX9_takeRead 79 = .ok (.iadd, 1) := by decide +kernel
theorem dX9_takeRead_80 : decode cX9_takeRead 80 = .ok (.iload_n 2, 1) := by decide +kernel
theorem dX9_takeRead_81 : decode cX9_takeRead 81 = .ok (.if_icmp .le 7, 3) := by decide +kernel
theorem dX9_takeRead_84 : decode cX9_takeRead 84 = .ok (.iconst 1, 1) := by decide +kernel
theorem dX9_takeRead_85 : decode cX9_takeRead 85 = .ok (.goto 4, 3) := by decide +kernel
theorem dX9_takeRead_88 : decode cX9_takeRead 88 = .ok (.iconst 0, 1) := by decide +kernel
theorem dX9_takeRead_89 : decode cX9_takeRead 89 = .ok (.iadd, 1) := by decide +kernel
theorem dX9_takeRead_90 : decode cX9_takeRead 90 = .ok (.istore_n 3, 1) := by decide +kernel
theorem dX9_takeRead_91 : decode cX9_takeRead 91 = .ok (.iinc 4 1, 3) := by decide +kernel
theorem dX9_takeRead_94 : decode cX9_takeRead 94 = .ok (.goto (-48), 3) := by decide +kernel
theorem dX9_takeRead_97 : decode cX9_takeRead 97 = .ok (.iconst 0, 1) := by decide +kernel
theorem dX9_takeRead_98 : decode cX9_takeRead 98 = .ok (.istore 4, 2) := by decide +kernel
theorem dX9_takeRead_100 : decode cX9_takeRead 100 = .ok (.iload 4, 2) := by decide +kernel
theorem dX9_takeRead_102 : decode cX9_takeRead 102 = .ok (.iconst 3, 1) := by decide +kernel
theorem dX9_takeRead_103 : decode cX9_takeRead 103 = .ok (.if_icmp .ge 31, 3) := by decide +kernel
theorem dX9_takeRead_106 : decode cX9_takeRead 106 = .ok (.aload_n 0, 1) := by decide +kernel
theorem dX9_takeRead_107 : decode cX9_takeRead 107 = .ok (.getfield 19, 3) := by decide +kernel
theorem dX9_takeRead_110 : decode cX9_takeRead 110 = .ok (.iconst 3, 1) := by decide +kernel
theorem dX9_takeRead_111 : decode cX9_takeRead 111 = .ok (.iload_n 3, 1) := by decide +kernel
theorem dX9_takeRead_112 : decode cX9_takeRead 112 = .ok (.imul, 1) := by decide +kernel
theorem dX9_takeRead_113 : decode cX9_takeRead 113 = .ok (.iload 4, 2) := by decide +kernel
theorem dX9_takeRead_115 : decode cX9_takeRead 115 = .ok (.iadd, 1) := by decide +kernel
theorem dX9_takeRead_116 : decode cX9_takeRead 116 = .ok (.aload_n 0, 1) := by decide +kernel
theorem dX9_takeRead_117 : decode cX9_takeRead 117 = .ok (.getfield 22, 3) := by decide +kernel
theorem dX9_takeRead_120 : decode cX9_takeRead 120 = .ok (.iconst 3, 1) := by decide +kernel
theorem dX9_takeRead_121 : decode cX9_takeRead 121 = .ok (.iload_n 1, 1) := by decide +kernel
theorem dX9_takeRead_122 : decode cX9_takeRead 122 = .ok (.imul, 1) := by decide +kernel
theorem dX9_takeRead_123 : decode cX9_takeRead 123 = .ok (.iload 4, 2) := by decide +kernel
theorem dX9_takeRead_125 : decode cX9_takeRead 125 = .ok (.iadd, 1) := by decide +kernel
theorem dX9_takeRead_126 : decode cX9_takeRead 126 = .ok (.iaload, 1) := by decide +kernel
theorem dX9_takeRead_127 : decode cX9_takeRead 127 = .ok (.iastore, 1) := by decide +kernel
theorem dX9_takeRead_128 : decode cX9_takeRead 128 = .ok (.iinc 4 1, 3) := by decide +kernel
theorem dX9_takeRead_131 : decode cX9_takeRead 131 = .ok (.goto (-31), 3) := by decide +kernel
theorem dX9_takeRead_134 : decode cX9_takeRead 134 = .ok (.iinc 1 1, 3) := by decide +kernel
theorem dX9_takeRead_137 : decode cX9_takeRead 137 = .ok (.goto (-127), 3) := by decide +kernel
theorem dX9_takeRead_140 : decode cX9_takeRead 140 = .ok (.iconst 0, 1) := by decide +kernel
theorem dX9_takeRead_141 : decode cX9_takeRead 141 = .ok (.istore_n 1, 1) := by decide +kernel
theorem dX9_takeRead_142 : decode cX9_takeRead 142 = .ok (.iload_n 1, 1) := by decide +kernel
theorem dX9_takeRead_143 : decode cX9_takeRead 143 = .ok (.iconst 5, 1) := by decide +kernel
theorem dX9_takeRead_144 : decode cX9_takeRead 144 = .ok (.if_icmp .ge 21, 3) := by decide +kernel
theorem dX9_takeRead_147 : decode cX9_takeRead 147 = .ok (.aload_n 0, 1) := by decide +kernel
theorem dX9_takeRead_148 : decode cX9_takeRead 148 = .ok (.getfield 13, 3) := by decide +kernel
theorem dX9_takeRead_151 : decode cX9_takeRead 151 = .ok (.iload_n 1, 1) := by decide +kernel
theorem dX9_takeRead_152 : decode cX9_takeRead 152 = .ok (.aload_n 0, 1) := by decide +kernel
theorem dX9_takeRead_153 : decode cX9_takeRead 153 = .ok (.getfield 16, 3) := by decide +kernel
theorem dX9_takeRead_156 : decode cX9_takeRead 156 = .ok (.iload_n 1, 1) := by decide +kernel
theorem dX9_takeRead_157 : decode cX9_takeRead 157 = .ok (.iaload, 1) := by decide +kernel
theorem dX9_takeRead_158 : decode cX9_takeRead 158 = .ok (.iastore, 1) := by decide +kernel
theorem dX9_takeRead_159 : decode cX9_takeRead 159 = .ok (.iinc 1 1, 3) := by decide +kernel
theorem dX9_takeRead_162 : decode cX9_takeRead 162 = .ok (.goto (-20), 3) := by decide +kernel
theorem dX9_takeRead_165 : decode cX9_takeRead 165 = .ok (.iconst 0, 1) := by decide +kernel
theorem dX9_takeRead_166 : decode cX9_takeRead 166 = .ok (.istore_n 1, 1) := by decide +kernel
theorem dX9_takeRead_167 : decode cX9_takeRead 167 = .ok (.iload_n 1, 1) := by decide +kernel
theorem dX9_takeRead_168 : decode cX9_takeRead 168 = .ok (.bipush 8, 2) := by decide +kernel
theorem dX9_takeRead_170 : decode cX9_takeRead 170 = .ok (.if_icmp .ge 37, 3) := by decide +kernel
theorem dX9_takeRead_173 : decode cX9_takeRead 173 = .ok (.aload_n 0, 1) := by decide +kernel
theorem dX9_takeRead_174 : decode cX9_takeRead 174 = .ok (.getfield 25, 3) := by decide +kernel
theorem dX9_takeRead_177 : decode cX9_takeRead 177 = .ok (.iload_n 1, 1) := by decide +kernel
theorem dX9_takeRead_178 : decode cX9_takeRead 178 = .ok (.iload_n 1, 1) := by decide +kernel
theorem dX9_takeRead_179 : decode cX9_takeRead 179 = .ok (.aload_n 0, 1) := by decide +kernel
theorem dX9_takeRead_180 : decode cX9_takeRead 180 = .ok (.getfield 54, 3) := by decide +kernel
theorem dX9_takeRead_183 : decode cX9_takeRead 183 = .ok (.if_icmp .ge 16, 3) := by decide +kernel
theorem dX9_takeRead_186 : decode cX9_takeRead 186 = .ok (.aload_n 0, 1) := by decide +kernel
theorem dX9_takeRead_187 : decode cX9_takeRead 187 = .ok (.getfield 19, 3) := by decide +kernel
theorem dX9_takeRead_190 : decode cX9_takeRead 190 = .ok (.iconst 3, 1) := by decide +kernel
theorem dX9_takeRead_191 : decode cX9_takeRead 191 = .ok (.iload_n 1, 1) := by decide +kernel
theorem dX9_takeRead_192 : decode cX9_takeRead 192 = .ok (.imul, 1) := by decide +kernel
theorem dX9_takeRead_193 : decode cX9_takeRead 193 = .ok (.iconst 2, 1) := by decide +kernel
theorem dX9_takeRead_194 : decode cX9_takeRead 194 = .ok (.iadd, 1) := by decide +kernel
theorem dX9_takeRead_195 : decode cX9_takeRead 195 = .ok (.iaload, 1) := by decide +kernel
theorem dX9_takeRead_196 : decode cX9_takeRead 196 = .ok (.goto 4, 3) := by decide +kernel
theorem dX9_takeRead_199 : decode cX9_takeRead 199 = .ok (.iconst 0, 1) := by decide +kernel
theorem dX9_takeRead_200 : decode cX9_takeRead 200 = .ok (.iastore, 1) := by decide +kernel
theorem dX9_takeRead_201 : decode cX9_takeRead 201 = .ok (.iinc 1 1, 3) := by decide +kernel
theorem dX9_takeRead_204 : decode cX9_takeRead 204 = .ok (.goto (-37), 3) := by decide +kernel
theorem dX9_takeRead_207 : decode cX9_takeRead 207 = .ok (.aload_n 0, 1) := by decide +kernel
theorem dX9_takeRead_208 : decode cX9_takeRead 208 = .ok (.getfield 25, 3) := by decide +kernel
theorem dX9_takeRead_211 : decode cX9_takeRead 211 = .ok (.bipush 8, 2) := by decide +kernel
theorem dX9_takeRead_213 : decode cX9_takeRead 213 = .ok (.iconst 0, 1) := by decide +kernel
theorem dX9_takeRead_214 : decode cX9_takeRead 214 = .ok (.iastore, 1) := by decide +kernel
theorem dX9_takeRead_215 : decode cX9_takeRead 215 = .ok (.aload_n 0, 1) := by decide +kernel
theorem dX9_takeRead_216 : decode cX9_takeRead 216 = .ok (.iconst 0, 1) := by decide +kernel
theorem dX9_takeRead_217 : decode cX9_takeRead 217 = .ok (.putfield 57, 3) := by decide +kernel
theorem dX9_takeRead_220 : decode cX9_takeRead 220 = .ok (.return_, 1) := by decide +kernel
set_option maxRecDepth 20000 in
theorem ggX9_isDigit_X9_in : GoodIn wsX9_isDigit wsX9_in := goodIn_r _ [7] (by decide +kernel) (by decide +kernel)
set_option maxRecDepth 20000 in
theorem gX9_isDigit_X9_in : GoodIn wsX9_isDigit (va_wsS RX9 66 yX9_in wsX9_in) := goodIn_app (goodIn_of _ (by decide +kernel)) ggX9_isDigit_X9_in
theorem dX9_isDigit_0 : decode cX9_isDigit 0 = .ok (.aload_n 0, 1) := by decide +kernel
theorem dX9_isDigit_1 : decode cX9_isDigit 1 = .ok (.getfield 60, 3) := by decide +kernel
theorem dX9_isDigit_4 : decode cX9_isDigit 4 = .ok (.aload_n 0, 1) := by decide +kernel
theorem dX9_isDigit_5 : decode cX9_isDigit 5 = .ok (.getfield 63, 3) := by decide +kernel
theorem dX9_isDigit_8 : decode cX9_isDigit 8 = .ok (.if_icmp .ge 26, 3) := by decide +kernel
theorem dX9_isDigit_11 : decode cX9_isDigit 11 = .ok (.aload_n 0, 1) := by decide +kernel
theorem dX9_isDigit_12 : decode cX9_isDigit 12 = .ok (.getfield 7, 3) := by decide +kernel
theorem dX9_isDigit_15 : decode cX9_isDigit 15 = .ok (.aload_n 0, 1) := by decide +kernel
theorem dX9_isDigit_16 : decode cX9_isDigit 16 = .ok (.getfield 60, 3) := by decide +kernel
theorem dX9_isDigit_19 : decode cX9_isDigit 19 = .ok (.iaload, 1) := by decide +kernel
theorem dX9_isDigit_20 : decode cX9_isDigit 20 = .ok (.bipush 48, 2) := by decide +kernel
theorem dX9_isDigit_22 : decode cX9_isDigit 22 = .ok (.bipush 57, 2) := by decide +kernel
theorem dX9_isDigit_24 : decode cX9_isDigit 24 = .ok (.invokestatic 66, 3) := by decide +kernel
theorem dX9_isDigit_27 : decode cX9_isDigit 27 = .ok (.ifCond .eq 7, 3) := by decide +kernel
theorem dX9_isDigit_30 : decode cX9_isDigit 30 = .ok (.iconst 1, 1) := by decide +kernel
theorem dX9_isDigit_31 : decode cX9_isDigit 31 = .ok (.goto 4, 3) := by decide +kernel
theorem dX9_isDigit_34 : decode cX9_isDigit 34 = .ok (.iconst 0, 1) := by decide +kernel
theorem dX9_isDigit_35 : decode cX9_isDigit 35 = .ok (.ireturn, 1) := by decide +kernel
set_option maxRecDepth 20000 in
theorem ggX9_readNumbers_X9_isDigit : GoodIn wsX9_readNumbers wsX9_isDigit := goodIn_r _ [9, 1, 3, 2, 10, 11, 8, 12, 13, 14, 15, 16, 17, 18, 19, 20, 21, 22, 23, 24, 25, 26, 27, 28, 29, 30] (by decide +kernel) (by decide +kernel)
set_option maxRecDepth 20000 in
theorem gX9_readNumbers_X9_isDigit : GoodIn wsX9_readNumbers (wsV RX9 69 RX9 yX9_isDigit wsX9_isDigit) := goodIn_app (goodIn_of _ (by decide +kernel)) ggX9_readNumbers_X9_isDigit
theorem dX9_readNumbers_0 : decode cX9_readNumbers 0 = .ok (.iconst 0, 1) := by decide +kernel
theorem dX9_readNumbers_1 : decode cX9_readNumbers 1 = .ok (.istore_n 2, 1) := by decide +kernel
theorem dX9_readNumbers_2 : decode cX9_readNumbers 2 = .ok (.iload_n 2, 1) := by decide +kernel
theorem dX9_readNumbers_3 : decode cX9_readNumbers 3 = .ok (.iload_n 1, 1) := by decide +kernel
theorem dX9_readNumbers_4 : decode cX9_readNumbers 4 = .ok (.if_icmp .ge 132, 3) := by decide +kernel
theorem dX9_readNumbers_7 : decode cX9_readNumbers 7 = .ok (.aload_n 0, 1) := by decide +kernel
theorem dX9_readNumbers_8 : decode cX9_readNumbers 8 = .ok (.getfield 60, 3) := by decide +kernel
theorem dX9_readNumbers_11 : decode cX9_readNumbers 11 = .ok (.istore_n 3, 1) := by decide +kernel
theorem dX9_readNumbers_12 : decode cX9_readNumbers 12 = .ok (.iconst 0, 1) := by decide +kernel
theorem dX9_readNumbers_13 : decode cX9_readNumbers 13 = .ok (.istore 4, 2) := by decide +kernel
theorem dX9_readNumbers_15 : decode cX9_readNumbers 15 = .ok (.aload_n 0, 1) := by decide +kernel
theorem dX9_readNumbers_16 : decode cX9_readNumbers 16 = .ok (.invokevirtual 69, 3) := by decide +kernel
theorem dX9_readNumbers_19 : decode cX9_readNumbers 19 = .ok (.ifCond .eq 46, 3) := by decide +kernel
theorem dX9_readNumbers_22 : decode cX9_readNumbers 22 = .ok (.aload_n 0, 1) := by decide +kernel
theorem dX9_readNumbers_23 : decode cX9_readNumbers 23 = .ok (.getfield 60, 3) := by decide +kernel
theorem dX9_readNumbers_26 : decode cX9_readNumbers 26 = .ok (.iload_n 3, 1) := by decide +kernel
theorem dX9_readNumbers_27 : decode cX9_readNumbers 27 = .ok (.iconst 3, 1) := by decide +kernel
theorem dX9_readNumbers_28 : decode cX9_readNumbers 28 = .ok (.iadd, 1) := by decide +kernel
theorem dX9_readNumbers_29 : decode cX9_readNumbers 29 = .ok (.if_icmp .ge 36, 3) := by decide +kernel
theorem dX9_readNumbers_32 : decode cX9_readNumbers 32 = .ok (.bipush 10, 2) := by decide +kernel
theorem dX9_readNumbers_34 : decode cX9_readNumbers 34 = .ok (.iload 4, 2) := by decide +kernel
theorem dX9_readNumbers_36 : decode cX9_readNumbers 36 = .ok (.imul, 1) := by decide +kernel
theorem dX9_readNumbers_37 : decode cX9_readNumbers 37 = .ok (.aload_n 0, 1) := by decide +kernel
theorem dX9_readNumbers_38 : decode cX9_readNumbers 38 = .ok (.getfield 7, 3) := by decide +kernel
theorem dX9_readNumbers_41 : decode cX9_readNumbers 41 = .ok (.aload_n 0, 1) := by decide +kernel
theorem dX9_readNumbers_42 : decode cX9_readNumbers 42 = .ok (.getfield 60, 3) := by decide +kernel
theorem dX9_readNumbers_45 : decode cX9_readNumbers 45 = .ok (.iaload, 1) := by decide +kernel
theorem dX9_readNumbers_46 : decode cX9_readNumbers 46 = .ok (.iadd, 1) := by decide +kernel
theorem dX9_readNumbers_47 : decode cX9_readNumbers 47 = .ok (.bipush 48, 2) := by decide +kernel
theorem dX9_readNumbers_49 : decode cX9_readNumbers 49 = .ok (.isub, 1) := by decide +kernel
theorem dX9_readNumbers_50 : decode cX9_readNumbers 50 = .ok (.istore 4, 2) := by decide +kernel
theorem dX9_readNumbers_52 : decode cX9_readNumbers 52 = .ok (.aload_n 0, 1) := by decide +kernel
theorem dX9_readNumbers_53 : decode cX9_readNumbers 53 = .ok (.dup, 1) := by decide +kernel
theorem dX9_readNumbers_54 : decode cX9_readNumbers 54 = .ok (.getfield 60, 3) := by decide +kernel
theorem dX9_readNumbers_57 : decode cX9_readNumbers 57 = .ok (.iconst 1, 1) := by decide +kernel
theorem dX9_readNumbers_58 : decode cX9_readNumbers 58 = .ok (.iadd, 1) := by decide +kernel
theorem dX9_readNumbers_59 : decode cX9_readNumbers 59 = .ok (.putfield 60, 3) := by decide +kernel
theorem dX9_readNumbers_62 : decode cX9_readNumbers 62 = .ok (.goto (-47), 3) := by decide +kernel
theorem dX9_readNumbers_65 : decode cX9_readNumbers 65 = .ok (.aload_n 0, 1) := by decide +kernel
theorem dX9_readNumbers_66 : decode cX9_readNumbers 66 = .ok (.getfield 60, 3) := by decide +kernel
theorem dX9_readNumbers_69 : decode cX9_readNumbers 69 = .ok (.iload_n 3, 1) := by decide +kernel
theorem dX9_readNumbers_70 : decode cX9_readNumbers 70 = .ok (.if_icmp .eq 40, 3) := by decide +kernel
theorem dX9_readNumbers_73 : decode cX9_readNumbers 73 = .ok (.aload_n 0, 1) := by decide +kernel
theorem dX9_readNumbers_74 : decode cX9_readNumbers 74 = .ok (.getfield 60, 3) := by decide +kernel
theorem dX9_readNumbers_77 : decode cX9_readNumbers 77 = .ok (.aload_n 0, 1) := by decide +kernel
theorem dX9_readNumbers_78 : decode cX9_readNumbers 78 = .ok (.getfield 63, 3) := by decide +kernel
theorem dX9_readNumbers_81 : decode cX9_readNumbers 81 = .ok (.if_icmp .eq 29, 3) := by decide +kernel
theorem dX9_readNumbers_84 : decode cX9_readNumbers 84 = .ok (.aload_n 0, 1) := by decide +kernel
theorem dX9_readNumbers_85 : decode cX9_readNumbers 85 = .ok (.getfield 7, 3) := by decide +kernel
theorem dX9_readNumbers_88 : decode cX9_readNumbers 88 = .ok (.aload_n 0, 1) := by decide +kernel
theorem dX9_readNumbers_89 : decode cX9_readNumbers 89 = .ok (.getfield 60, 3) := by decide +kernel
theorem dX9_readNumbers_92 : decode cX9_readNumbers 92 = .ok (.iaload, 1) := by decide +kernel
theorem dX9_readNumbers_93 : decode cX9_readNumbers 93 = .ok (.iload_n 2, 1) := by decide +kernel
theorem dX9_readNumbers_94 : decode cX9_readNumbers 94 = .ok (.iconst 1, 1) := by decide +kernel
theorem dX9_readNumbers_95 : decode cX9_readNumbers 95 = .ok (.iadd, 1) := by decide +kernel
theorem dX9_readNumbers_96 : decode cX9_readNumbers 96 = .ok (.iload_n 1, 1) := by decide +kernel
theorem dX9_readNumbers_97 : decode cX9_readNumbers 97 = .ok (.if_icmp .ne 8, 3) := by decide +kernel
theorem dX9_readNumbers_100 : decode cX9_readNumbers 100 = .ok (.bipush 59, 2) := by decide +kernel
theorem dX9_readNumbers_102 : decode cX9_readNumbers 102 = .ok (.goto 5, 3) := by decide +kernel
theorem dX9_readNumbers_105 : decode cX9_readNumbers 105 = .ok (.bipush 44, 2) := by decide +kernel
theorem dX9_readNumbers_107 : decode cX9_readNumbers 107 = .ok (.if_icmp .eq 5, 3) := by decide +kernel
theorem dX9_readNumbers_110 : decode cX9_readNumbers 110 = .ok (.iconst 0, 1) := by decide +kernel
theorem dX9_readNumbers_111 : decode cX9_readNumbers 111 = .ok (.ireturn, 1) := by decide +kernel
theorem dX9_readNumbers_112 : decode cX9_readNumbers 112 = .ok (.aload_n 0, 1) := by decide +kernel
theorem dX9_readNumbers_113 : decode cX9_readNumbers 113 = .ok (.getfield 34, 3) := by decide +kernel
theorem dX9_readNumbers_116 : decode cX9_readNumbers 116 = .ok (.iload_n 2, 1) := by decide +kernel
theorem dX9_readNumbers_117 : decode cX9_readNumbers 117 = .ok (.iload 4, 2) := by decide +kernel
theorem dX9_readNumbers_119 : decode cX9_readNumbers 119 = .ok (.iastore, 1) := by decide +kernel
theorem dX9_readNumbers_120 : decode cX9_readNumbers 120 = .ok (.aload_n 0, 1) := by decide +kernel
theorem dX9_readNumbers_121 : decode cX9_readNumbers 121 = .ok (.dup, 1) := by decide +kernel
theorem dX9_readNumbers_122 : decode cX9_readNumbers 122 = .ok (.getfield 60, 3) := by decide +kernel
theorem dX9_readNumbers_125 : decode cX9_readNumbers 125 = .ok (.iconst 1, 1) := by decide +kernel
theorem dX9_readNumbers_126 : decode cX9_readNumbers 126 = .ok (.iadd, 1) := by decide +kernel
theorem dX9_readNumbers_127 : decode cX9_readNumbers 127 = .ok (.putfield 60, 3) := by decide +kernel
theorem dX9_readNumbers_130 : decode cX9_readNumbers 130 = .ok (.iinc 2 1, 3) := by decide +kernel
theorem dX9_readNumbers_133 : decode cX9_readNumbers 133 = .ok (.goto (-131), 3) := by decide +kernel
theorem dX9_readNumbers_136 : decode cX9_readNumbers 136 = .ok (.iconst 1, 1) := by decide +kernel
theorem dX9_readNumbers_137 : decode cX9_readNumbers 137 = .ok (.ireturn, 1) := by decide +kernel
set_option maxRecDepth 20000 in
theorem ggX9_isNumber_X9_in : GoodIn wsX9_isNumber wsX9_in := goodIn_r _ [5] (by decide +kernel) (by decide +kernel)
set_option maxRecDepth 20000 in
theorem gX9_isNumber_X9_in : GoodIn wsX9_isNumber (va_wsS RX9 66 yX9_in wsX9_in) := goodIn_app (goodIn_of _ (by decide +kernel)) ggX9_isNumber_X9_in
theorem dX9_isNumber_0 : decode cX9_isNumber 0 = .ok (.aload_n 0, 1) := by decide +kernel
theorem dX9_isNumber_1 : decode cX9_isNumber 1 = .ok (.getfield 34, 3) := by decide +kernel
theorem dX9_isNumber_4 : decode cX9_isNumber 4 = .ok (.iload_n 1, 1) := by decide +kernel
theorem dX9_isNumber_5 : decode cX9_isNumber 5 = .ok (.iaload, 1) := by decide +kernel
theorem dX9_isNumber_6 : decode cX9_isNumber 6 = .ok (.iload_n 2, 1) := by decide +kernel
theorem dX9_isNumber_7 : decode cX9_isNumber 7 = .ok (.iload_n 3, 1) := by decide +kernel
theorem dX9_isNumber_8 : decode cX9_isNumber 8 = .ok (.invokestatic 66, 3) := by decide +kernel
theorem dX9_isNumber_11 : decode cX9_isNumber 11 = .ok (.ireturn, 1) := by decide +kernel
theorem dX9_setRead_0 : decode cX9_setRead 0 = .ok (.aload_n 0, 1) := by decide +kernel
theorem dX9_setRead_1 : decode cX9_setRead 1 = .ok (.getfield 16, 3) := by decide +kernel
theorem dX9_setRead_4 : decode cX9_setRead 4 = .ok (.iload_n 1, 1) := by decide +kernel
theorem dX9_setRead_5 : decode cX9_setRead 5 = .ok (.iload_n 3, 1) := by decide +kernel
theorem dX9_setRead_6 : decode cX9_setRead 6 = .ok (.ifCond .eq 7, 3) := by decide +kernel
theorem dX9_setRead_9 : decode cX9_setRead 9 = .ok (.iload_n 2, 1) := by decide +kernel
theorem dX9_setRead_10 : decode cX9_setRead 10 = .ok (.goto 9, 3) := by decide +kernel
theorem dX9_setRead_13 : decode cX9_setRead 13 = .ok (.aload_n 0, 1) := by decide +kernel
theorem dX9_setRead_14 : decode cX9_setRead 14 = .ok (.getfield 16, 3) := by decide +kernel
theorem dX9_setRead_17 : decode cX9_setRead 17 = .ok (.iload_n 1, 1) := by decide +kernel
theorem dX9_setRead_18 : decode cX9_setRead 18 = .ok (.iaload, 1) := by decide +kernel
theorem dX9_setRead_19 : decode cX9_setRead 19 = .ok (.iastore, 1) := by decide +kernel
theorem dX9_setRead_20 : decode cX9_setRead 20 = .ok (.return_, 1) := by decide +kernel
set_option maxRecDepth 20000 in
theorem ggX9_readItem_X9_readNumbers : GoodIn wsX9_readItem wsX9_readNumbers := goodIn_r _ [6, 7, 8, 9, 1, 10, 11, 12, 5, 13, 14, 15, 16, 32, 33, 34, 35, 36, 37, 38, 39, 40, 41, 42, 43, 44, 45, 46, 47, 48, 49] (by decide +kernel) (by decide +kernel)
set_option maxRecDepth 20000 in
theorem gX9_readItem_X9_readNumbers : GoodIn wsX9_readItem (wsV RX9 73 RX9 yX9_readNumbers wsX9_readNumbers) := goodIn_app (goodIn_of _ (by decide +kernel)) ggX9_readItem_X9_readNumbers
set_option maxRecDepth 20000 in
theorem ggX9_readItem_X9_isNumber : GoodIn wsX9_readItem wsX9_isNumber := goodIn_r _ [20, 1, 14, 15, 5, 16, 32, 33, 34, 35, 36, 37, 38, 39, 40, 41, 42, 43, 44, 45, 46, 47, 48, 49] (by decide +kernel) (by decide +kernel)
set_option maxRecDepth 20000 in
theorem gX9_readItem_X9_isNumber : GoodIn wsX9_readItem (wsV RX9 77 RX9 yX9_isNumber wsX9_isNumber) := goodIn_app (goodIn_of _ (by decide +kernel)) ggX9_readItem_X9_isNumber
set_option maxRecDepth 20000 in
theorem ggX9_readItem_X9_addHeap : GoodIn wsX9_readItem wsX9_addHeap := goodIn_r _ [24, 25, 26, 32, 33, 34, 35, 36, 37, 38, 39, 40, 41, 42, 43, 44, 45, 46, 47, 48, 49] (by decide +kernel) (by decide +kernel)
set_option maxRecDepth 20000 in
theorem gX9_readItem_X9_addHeap : GoodIn wsX9_readItem (wsV RX9 43 RX9 yX9_addHeap wsX9_addHeap) := goodIn_app (goodIn_of _ (by decide +kernel)) ggX9_readItem_X9_addHeap
set_option maxRecDepth 20000 in
theorem ggX9_readItem_X9_setRead : GoodIn wsX9_readItem wsX9_setRead := goodIn_r _ [30, 31, 32, 33, 34, 35, 36, 37, 38, 39, 40, 41, 42, 43, 44, 45, 46, 47, 48, 49] (by decide +kernel) (by decide +kernel)
set_option maxRecDepth 20000 in
theorem gX9_readItem_X9_setRead : GoodIn wsX9_readItem (wsV RX9 80 RX9 yX9_setRead wsX9_setRead) := goodIn_app (goodIn_of _ (by decide +kernel)) ggX9_readItem_X9_setRead
theorem dX9_readItem_0 : decode cX9_readItem 0 = .ok (.iconst 0, 1) := by decide +kernel
theorem dX9_readItem_1 : decode cX9_readItem 1 = .ok (.istore_n 2, 1) := by decide +kernel
theorem dX9_readItem_2 : decode cX9_readItem 2 = .ok (.iload_n 1, 1) := by decide +kernel
theorem dX9_readItem_3 : decode cX9_readItem 3 = .ok (.lookupswitch 282 #[(104, 41), (105, 243), (112, 181), (114, 115)], 41) := by decide +kernel
theorem dX9_readItem_44 : decode cX9_readItem 44 = .ok (.aload_n 0, 1) := by decide +kernel
theorem dX9_readItem_45 : decode cX9_readItem 45 = .ok (.iconst 3, 1) := by decide +kernel
theorem dX9_readItem_46 : decode cX9_readItem 46 = .ok (.invokevirtual 73, 3) := by decide +kernel
theorem dX9_readItem_49 : decode cX9_readItem 49 = .ok (.ifCond .eq 67, 3) := by decide +kernel
theorem dX9_readItem_52 : decode cX9_readItem 52 = .ok (.aload_n 0, 1) := by decide +kernel
theorem dX9_readItem_53 : decode cX9_readItem 53 = .ok (.iconst 0, 1) := by decide +kernel
theorem dX9_readItem_54 : decode cX9_readItem 54 = .ok (.bipush 20, 2) := by decide +kernel
theorem dX9_readItem_56 : decode cX9_readItem 56 = .ok (.bipush 60, 2) := by decide +kernel
theorem dX9_readItem_58 : decode cX9_readItem 58 = .ok (.invokevirtual 77, 3) := by decide +kernel
theorem dX9_readItem_61 : decode cX9_readItem 61 = .ok (.ifCond .eq 55, 3) := by decide +kernel
theorem dX9_readItem_64 : decode cX9_readItem 64 = .ok (.aload_n 0, 1) := by decide +kernel
theorem dX9_readItem_65 : decode cX9_readItem 65 = .ok (.iconst 1, 1) := by decide +kernel
theorem dX9_readItem_66 : decode cX9_readItem 66 = .ok (.bipush 10, 2) := by decide +kernel
theorem dX9_readItem_68 : decode cX9_readItem 68 = .ok (.bipush 60, 2) := by decide +kernel
theorem dX9_readItem_70 : decode cX9_readItem 70 = .ok (.invokevirtual 77, 3) := by decide +kernel
theorem dX9_readItem_73 : decode cX9_readItem 73 = .ok (.ifCond .eq 43, 3) := by decide +kernel
theorem dX9_readItem_76 : decode cX9_readItem 76 = .ok (.aload_n 0, 1) := by decide +kernel
theorem dX9_readItem_77 : decode cX9_readItem 77 = .ok (.iconst 2, 1) := by decide +kernel
theorem dX9_readItem_78 : decode cX9_readItem 78 = .ok (.iconst 1, 1) := by decide +kernel
theorem dX9_readItem_79 : decode cX9_readItem 79 = .ok (.bipush 99, 2) := by decide +kernel
theorem dX9_readItem_81 : decode cX9_readItem 81 = .ok (.invokevirtual 77, 3) := by decide +kernel
theorem dX9_readItem_84 : decode cX9_readItem 84 = .ok (.ifCond .eq 32, 3) := by decide +kernel
theorem dX9_readItem_87 : decode cX9_readItem 87 = .ok (.aload_n 0, 1) := by decide +kernel
theorem dX9_readItem_88 : decode cX9_readItem 88 = .ok (.aload_n 0, 1) := by decide +kernel
theorem dX9_readItem_89 : decode cX9_readItem 89 = .ok (.getfield 34, 3) := by decide +kernel
theorem dX9_readItem_92 : decode cX9_readItem 92 = .ok (.iconst 0, 1) := by decide +kernel
theorem dX9_readItem_93 : decode cX9_readItem 93 = .ok (.iaload, 1) := by decide +kernel
theorem dX9_readItem_94 : decode cX9_readItem 94 = .ok (.aload_n 0, 1) := by decide +kernel
theorem dX9_readItem_95 : decode cX9_readItem 95 = .ok (.getfield 34, 3) := by decide +kernel
theorem dX9_readItem_98 : decode cX9_readItem 98 = .ok (.iconst 1, 1) := by decide +kernel
theorem dX9_readItem_99 : decode cX9_readItem 99 = .ok (.iaload, 1) := by decide +kernel
theorem dX9_readItem_100 : decode cX9_readItem 100 = .ok (.aload_n 0, 1) := by decide +kernel
theorem dX9_readItem_101 : decode cX9_readItem 101 = .ok (.getfield 34, 3) := by decide +kernel
theorem dX9_readItem_104 : decode cX9_readItem 104 = .ok (.iconst 2, 1) := by decide +kernel
theorem dX9_readItem_105 : decode cX9_readItem 105 = .ok (.iaload, 1) := by decide +kernel
theorem dX9_readItem_106 : decode cX9_readItem 106 = .ok (.invokevirtual 43, 3) := by decide +kernel
theorem dX9_readItem_109 : decode cX9_readItem 109 = .ok (.ifCond .eq 7, 3) := by decide +kernel
theorem dX9_readItem_112 : decode cX9_readItem 112 = .ok (.iconst 1, 1) := by decide +kernel
theorem dX9_readItem_113 : decode cX9_readItem 113 = .ok (.goto 4, 3) := by decide +kernel
theorem dX9_readItem_116 : decode cX9_readItem 116 = .ok (.iconst 0, 1) := by decide +kernel
theorem dX9_readItem_117 : decode cX9_readItem 117 = .ok (.ireturn, 1) := by decide +kernel
theorem dX9_readItem_118 : decode cX9_readItem 118 = .ok (.aload_n 0, 1) := by decide +kernel
theorem dX9_readItem_119 : decode cX9_readItem 119 = .ok (.iconst 2, 1) := by decide +kernel
theorem dX9_readItem_120 : decode cX9_readItem 120 = .ok (.invokevirtual 73, 3) := by decide +kernel
theorem dX9_readItem_123 : decode cX9_readItem 123 = .ok (.ifCond .eq 33, 3) := by decide +kernel
theorem dX9_readItem_126 : decode cX9_readItem 126 = .ok (.aload_n 0, 1) := by decide +kernel
theorem dX9_readItem_127 : decode cX9_readItem 127 = .ok (.iconst 0, 1) := by decide +kernel
theorem dX9_readItem_128 : decode cX9_readItem 128 = .ok (.bipush 20, 2) := by decide +kernel
theorem dX9_readItem_130 : decode cX9_readItem 130 = .ok (.sipush 400, 3) := by decide +kernel
theorem dX9_readItem_133 : decode cX9_readItem 133 = .ok (.invokevirtual 77, 3) := by decide +kernel
theorem dX9_readItem_136 : decode cX9_readItem 136 = .ok (.ifCond .eq 20, 3) := by decide +kernel
theorem dX9_readItem_139 : decode cX9_readItem 139 = .ok (.aload_n 0, 1) := by decide +kernel
theorem dX9_readItem_140 : decode cX9_readItem 140 = .ok (.iconst 1, 1) := by decide +kernel
theorem dX9_readItem_141 : decode cX9_readItem 141 = .ok (.bipush 40, 2) := by decide +kernel
theorem dX9_readItem_143 : decode cX9_readItem 143 = .ok (.sipush 240, 3) := by decide +kernel
theorem dX9_readItem_146 : decode cX9_readItem 146 = .ok (.invokevirtual 77, 3) := by decide +kernel
theorem dX9_readItem_149 : decode cX9_readItem 149 = .ok (.ifCond .eq 7, 3) := by decide +kernel
theorem dX9_readItem_152 : decode cX9_readItem 152 = .ok (.iconst 1, 1) := by decide +kernel
theorem dX9_readItem_153 : decode cX9_readItem 153 = .ok (.goto 4, 3) := by decide +kernel
theorem dX9_readItem_156 : decode cX9_readItem 156 = .ok (.iconst 0, 1) := by decide +kernel
theorem dX9_readItem_157 : decode cX9_readItem 157 = .ok (.istore_n 2, 1) := by decide +kernel
theorem dX9_readItem_158 : decode cX9_readItem 158 = .ok (.aload_n 0, 1) := by decide +kernel
theorem dX9_readItem_159 : decode cX9_readItem 159 = .ok (.iconst 0, 1) := by decide +kernel
theorem dX9_readItem_160 : decode cX9_readItem 160 = .ok (.aload_n 0, 1) := by decide +kernel
theorem dX9_readItem_161 : decode cX9_readItem 161 = .ok (.getfield 34, 3) := by decide +kernel
theorem dX9_readItem_164 : decode cX9_readItem 164 = .ok (.iconst 0, 1) := by decide +kernel
theorem dX9_readItem_165 : decode cX9_readItem 165 = .ok (.iaload, 1) := by decide +kernel
theorem dX9_readItem_166 : decode cX9_readItem 166 = .ok (.iload_n 2, 1) := by decide +kernel
theorem dX9_readItem_167 : decode cX9_readItem 167 = .ok (.invokevirtual 80, 3) := by decide +kernel
theorem dX9_readItem_170 : decode cX9_readItem 170 = .ok (.aload_n 0, 1) := by decide +kernel
theorem dX9_readItem_171 : decode cX9_readItem 171 = .ok (.iconst 1, 1) := by decide +kernel
theorem dX9_readItem_172 : decode cX9_readItem 172 = .ok (.aload_n 0, 1) := by decide +kernel
theorem dX9_readItem_173 : decode cX9_readItem 173 = .ok (.getfield 34, 3) := by decide +kernel
theorem dX9_readItem_176 : decode cX9_readItem 176 = .ok (.iconst 1, 1) := by decide +kernel
theorem dX9_readItem_177 : decode cX9_readItem 177 = .ok (.iaload, 1) := by decide +kernel
theorem dX9_readItem_178 : decode cX9_readItem 178 = .ok (.iload_n 2, 1) := by decide +kernel
theorem dX9_readItem_179 : decode cX9_readItem 179 = .ok (.invokevirtual 80, 3) := by decide +kernel
theorem dX9_readItem_182 : decode cX9_readItem 182 = .ok (.iload_n 2, 1) := by decide +kernel
theorem dX9_readItem_183 : decode cX9_readItem 183 = .ok (.ireturn, 1) := by decide +kernel
theorem dX9_readItem_184 : decode cX9_readItem 184 = .ok (.aload_n 0, 1) := by decide +kernel
theorem dX9_readItem_185 : decode cX9_readItem 185 = .ok (.iconst 2, 1) := by decide +kernel
theorem dX9_readItem_186 : decode cX9_readItem 186 = .ok (.invokevirtual 73, 3) := by decide +kernel
theorem dX9_readItem_189 : decode cX9_readItem 189 = .ok (.ifCond .eq 29, 3) := by decide +kernel
theorem dX9_readItem_192 : decode cX9_readItem 192 = .ok (.aload_n 0, 1) := by decide +kernel
theorem dX9_readItem_193 : decode cX9_readItem 193 = .ok (.iconst 0, 1) := by decide +kernel
theorem dX9_readItem_194 : decode cX9_readItem 194 = .ok (.iconst 1, 1) := by decide +kernel
theorem dX9_readItem_195 : decode cX9_readItem 195 = .ok (.bipush 10, 2) := by decide +kernel
theorem dX9_readItem_197 : decode cX9_readItem 197 = .ok (.invokevirtual 77, 3) := by decide +kernel
theorem dX9_readItem_200 : decode cX9_readItem 200 = .ok (.ifCond .eq 18, 3) := by decide +kernel
theorem dX9_readItem_203 : decode cX9_readItem 203 = .ok (.aload_n 0, 1) := by decide +kernel
theorem dX9_readItem_204 : decode cX9_readItem 204 = .ok (.iconst 1, 1) := by decide +kernel
theorem dX9_readItem_205 : decode cX9_readItem 205 = .ok (.iconst 1, 1) := by decide +kernel
theorem dX9_readItem_206 : decode cX9_readItem 206 = .ok (.bipush 9, 2) := by decide +kernel
theorem dX9_readItem_208 : decode cX9_readItem 208 = .ok (.invokevirtual 77, 3) := by decide +kernel
theorem dX9_readItem_211 : decode cX9_readItem 211 = .ok (.ifCond .eq 7, 3) := by decide +kernel
theorem dX9_readItem_214 : decode cX9_readItem 214 = .ok (.iconst 1, 1) := by decide +kernel
theorem dX9_readItem_215 : decode cX9_readItem 215 = .ok (.goto 4, 3) := by decide +kernel
theorem dX9_readItem_218 : decode cX9_readItem 218 = .ok (.iconst 0, 1) := by decide +kernel
theorem dX9_readItem_219 : decode cX9_readItem 219 = .ok (.istore_n 2, 1) := by decide +kernel
theorem dX9_readItem_220 : decode cX9_readItem 220 = .ok (.aload_n 0, 1) := by decide +kernel
theorem dX9_readItem_221 : decode cX9_readItem 221 = .ok (.iconst 2, 1) := by decide +kernel
theorem dX9_readItem_222 : decode cX9_readItem 222 = .ok (.aload_n 0, 1) := by decide +kernel
theorem dX9_readItem_223 : decode cX9_readItem 223 = .ok (.getfield 34, 3) := by decide +kernel
theorem dX9_readItem_226 : decode cX9_readItem 226 = .ok (.iconst 0, 1) := by decide +kernel
theorem dX9_readItem_227 : decode cX9_readItem 227 = .ok (.iaload, 1) := by decide +kernel
theorem dX9_readItem_228 : decode cX9_readItem 228 = .ok (.iload_n 2, 1) := by decide +kernel
theorem dX9_readItem_229 : decode cX9_readItem 229 = .ok (.invokevirtual 80, 3) := by decide +kernel
theorem dX9_readItem_232 : decode cX9_readItem 232 = .ok (.aload_n 0, 1) := by decide +kernel
theorem dX9_readItem_233 : decode cX9_readItem 233 = .ok (.iconst 3, 1) := by decide +kernel
theorem dX9_readItem_234 : decode cX9_readItem 234 = .ok (.aload_n 0, 1) := by decide +kernel
theorem dX9_readItem_235 : decode cX9_readItem 235 = .ok (.getfield 34, 3) := by decide +kernel
theorem dX9_readItem_238 : decode cX9_readItem 238 = .ok (.iconst 1, 1) := by decide +kernel
theorem dX9_readItem_239 : decode cX9_readItem 239 = .ok (.iaload, 1) := by decide +kernel
theorem dX9_readItem_240 : decode cX9_readItem 240 = .ok (.iload_n 2, 1) := by decide +kernel
theorem dX9_readItem_241 : decode cX9_readItem 241 = .ok (.invokevirtual 80, 3) := by decide +kernel
theorem dX9_readItem_244 : decode cX9_readItem 244 = .ok (.iload_n 2, 1) := by decide +kernel
theorem dX9_readItem_245 : decode cX9_readItem 245 = .ok (.ireturn, 1) := by decide +kernel
theorem dX9_readItem_246 : decode cX9_readItem 246 = .ok (.aload_n 0, 1) := by decide +kernel
theorem dX9_readItem_247 : decode cX9_readItem 247 = .ok (.iconst 1, 1) := by decide +kernel
theorem dX9_readItem_248 : decode cX9_readItem 248 = .ok (.invokevirtual 73, 3) := by decide +kernel
theorem dX9_readItem_251 : decode cX9_readItem 251 = .ok (.ifCond .eq 18, 3) := by decide +kernel
theorem dX9_readItem_254 : decode cX9_readItem 254 = .ok (.aload_n 0, 1) := by decide +kernel
theorem dX9_readItem_255 : decode cX9_readItem 255 = .ok (.iconst 0, 1) := by decide +kernel
theorem dX9_readItem_256 : decode cX9_readItem 256 = .ok (.iconst 0, 1) := by decide +kernel
theorem dX9_readItem_257 : decode cX9_readItem 257 = .ok (.bipush 9, 2) := by decide +kernel
theorem dX9_readItem_259 : decode cX9_readItem 259 = .ok (.invokevirtual 77, 3) := by decide +kernel
theorem dX9_readItem_262 : decode cX9_readItem 262 = .ok (.ifCond .eq 7, 3) := by decide +kernel
theorem dX9_readItem_265 : decode cX9_readItem 265 = .ok (.iconst 1, 1) := by decide +kernel
theorem dX9_readItem_266 : decode cX9_readItem 266 = .ok (.goto 4, 3) := by decide +kernel
theorem dX9_readItem_269 : decode cX9_readItem 269 = .ok (.iconst 0, 1) := by decide +kernel
theorem dX9_readItem_270 : decode cX9_readItem 270 = .ok (.istore_n 2, 1) := by decide +kernel
theorem dX9_readItem_271 : decode cX9_readItem 271 = .ok (.aload_n 0, 1) := by decide +kernel
theorem dX9_readItem_272 : decode cX9_readItem 272 = .ok (.iconst 4, 1) := by decide +kernel
theorem dX9_readItem_273 : decode cX9_readItem 273 = .ok (.aload_n 0, 1) := by decide +kernel
theorem dX9_readItem_274 : decode cX9_readItem 274 = .ok (.getfield 34, 3) := by decide +kernel
theorem dX9_readItem_277 : decode cX9_readItem 277 = .ok (.iconst 0, 1) := by decide +kernel
theorem dX9_readItem_278 : decode cX9_readItem 278 = .ok (.iaload, 1) := by decide +kernel
theorem dX9_readItem_279 : decode cX9_readItem 279 = .ok (.iload_n 2, 1) := by decide +kernel
theorem dX9_readItem_280 : decode cX9_readItem 280 = .ok (.invokevirtual 80, 3) := by decide +kernel
theorem dX9_readItem_283 : decode cX9_readItem 283 = .ok (.iload_n 2, 1) := by decide +kernel
theorem dX9_readItem_284 : decode cX9_readItem 284 = .ok (.ireturn, 1) := by decide +kernel
theorem dX9_readItem_285 : decode cX9_readItem 285 = .ok (.iconst 0, 1) := by decide +kernel
theorem dX9_readItem_286 : decode cX9_readItem 286 = .ok (.ireturn, 1) := by decide +kernel
set_option maxRecDepth 20000 in
theorem ggX9_parse_X9_beginRead : GoodIn wsX9_parse wsX9_beginRead := goodIn_r _ [8, 9, 10, 40, 41, 42, 43, 44, 45, 46, 47, 48, 49, 50, 51, 52, 53, 54, 55, 56, 57] (by decide +kernel) (by decide +kernel)
set_option maxRecDepth 20000 in
theorem gX9_parse_X9_beginRead : GoodIn wsX9_parse (wsV RX9 40 RX9 yX9_beginRead wsX9_beginRead) := goodIn_app (goodIn_of _ (by decide +kernel)) ggX9_parse_X9_beginRead
set_option maxRecDepth 20000 in
theorem ggX9_parse_X9_readItem : GoodIn wsX9_parse wsX9_readItem := goodIn_r _ [14, 15, 16, 17, 18, 7, 19, 1, 3, 2, 20, 21, 22, 23, 24, 25, 26, 27, 28, 29, 30, 31, 32, 33, 34, 9, 35, 36, 37, 38, 39, 10, 40, 41, 42, 43, 44, 45, 46, 47, 48, 49, 50, 51, 52, 53, 54, 55, 56, 57] (by decide +kernel) (by decide +kernel)
set_option maxRecDepth 20000 in
theorem gX9_parse_X9_readItem : GoodIn wsX9_parse (wsV RX9 84 RX9 yX9_readItem wsX9_readItem) := goodIn_app (goodIn_of _ (by decide +kernel)) ggX9_parse_X9_readItem
theorem dX9_parse_0 : decode cX9_parse 0 = .ok (.aload_n 0, 1) := by decide +kernel
theorem dX9_parse_1 : decode cX9_parse 1 = .ok (.invokevirtual 40, 3) := by decide +kernel
theorem dX9_parse_4 : decode cX9_parse 4 = .ok (.aload_n 0, 1) := by decide +kernel
theorem dX9_parse_5 : decode cX9_parse 5 = .ok (.iconst 0, 1) := by decide +kernel
theorem dX9_parse_6 : decode cX9_parse 6 = .ok (.putfield 60, 3) := by decide +kernel
theorem dX9_parse_9 : decode cX9_parse 9 = .ok (.aload_n 0, 1) := by decide +kernel
theorem dX9_parse_10 : decode cX9_parse 10 = .ok (.getfield 60, 3) := by decide +kernel
theorem dX9_parse_13 : decode cX9_parse 13 = .ok (.aload_n 0, 1) := by decide +kernel
theorem dX9_parse_14 : decode cX9_parse 14 = .ok (.getfield 63, 3) := by decide +kernel
theorem dX9_parse_17 : decode cX9_parse 17 = .ok (.if_icmp .ge 41, 3) := by decide +kernel
theorem dX9_parse_20 : decode cX9_parse 20 = .ok (.aload_n 0, 1) := by decide +kernel
theorem dX9_parse_21 : decode cX9_parse 21 = .ok (.getfield 60, 3) := by decide +kernel
theorem dX9_parse_24 : decode cX9_parse 24 = .ok (.istore_n 1, 1) := by decide +kernel
theorem dX9_parse_25 : decode cX9_parse 25 = .ok (.aload_n 0, 1) := by decide +kernel
theorem dX9_parse_26 : decode cX9_parse 26 = .ok (.getfield 7, 3) := by decide +kernel
theorem dX9_parse_29 : decode cX9_parse 29 = .ok (.aload_n 0, 1) := by decide +kernel
theorem dX9_parse_30 : decode cX9_parse 30 = .ok (.getfield 60, 3) := by decide +kernel
theorem dX9_parse_33 : decode cX9_parse 33 = .ok (.iaload, 1) := by decide +kernel
theorem dX9_parse_34 : decode cX9_parse 34 = .ok (.istore_n 2, 1) := by decide +kernel
theorem dX9_parse_35 : decode cX9_parse 35 = .ok (.aload_n 0, 1) := by decide +kernel
theorem dX9_parse_36 : decode cX9_parse 36 = .ok (.dup, 1) := by decide +kernel
theorem dX9_parse_37 : decode cX9_parse 37 = .ok (.getfield 60, 3) := by decide +kernel
theorem dX9_parse_40 : decode cX9_parse 40 = .ok (.iconst 1, 1) := by decide +kernel
theorem dX9_parse_41 : decode cX9_parse 41 = .ok (.iadd, 1) := by decide +kernel
theorem dX9_parse_42 : decode cX9_parse 42 = .ok (.putfield 60, 3) := by decide +kernel
theorem dX9_parse_45 : decode cX9_parse 45 = .ok (.aload_n 0, 1) := by decide +kernel
theorem dX9_parse_46 : decode cX9_parse 46 = .ok (.iload_n 2, 1) := by decide +kernel
theorem dX9_parse_47 : decode cX9_parse 47 = .ok (.invokevirtual 84, 3) := by decide +kernel
theorem dX9_parse_50 : decode cX9_parse 50 = .ok (.ifCond .ne 5, 3) := by decide +kernel
theorem dX9_parse_53 : decode cX9_parse 53 = .ok (.iload_n 1, 1) := by decide +kernel
theorem dX9_parse_54 : decode cX9_parse 54 = .ok (.ireturn, 1) := by decide +kernel
theorem dX9_parse_55 : decode cX9_parse 55 = .ok (.goto (-46), 3) := by decide +kernel
theorem dX9_parse_58 : decode cX9_parse 58 = .ok (.bipush (-4), 2) := by decide +kernel
theorem dX9_parse_60 : decode cX9_parse 60 = .ok (.ireturn, 1) := by decide +kernel
set_option maxRecDepth 20000 in
theorem ggX9_write_X9_in : GoodIn wsX9_write wsX9_in := goodIn_r _ [6] (by decide +kernel) (by decide +kernel)
set_option maxRecDepth 20000 in
theorem gX9_write_X9_in : GoodIn wsX9_write (va_wsS RX9 66 yX9_in wsX9_in) := goodIn_app (goodIn_of _ (by decide +kernel)) ggX9_write_X9_in
theorem dX9_write_0 : decode cX9_write 0 = .ok (.iload_n 1, 1) := by decide +kernel
theorem dX9_write_1 : decode cX9_write 1 = .ok (.bipush 32, 2) := by decide +kernel
theorem dX9_write_3 : decode cX9_write 3 = .ok (.bipush 126, 2) := by decide +kernel
theorem dX9_write_5 : decode cX9_write 5 = .ok (.invokestatic 66, 3) := by decide +kernel
theorem dX9_write_8 : decode cX9_write 8 = .ok (.ifCond .ne 5, 3) := by decide +kernel
theorem dX9_write_11 : decode cX9_write 11 = .ok (.iconst (-1), 1) := by decide +kernel
theorem dX9_write_12 : decode cX9_write 12 = .ok (.ireturn, 1) := by decide +kernel
theorem dX9_write_13 : decode cX9_write 13 = .ok (.aload_n 0, 1) := by decide +kernel
theorem dX9_write_14 : decode cX9_write 14 = .ok (.getfield 63, 3) := by decide +kernel
theorem dX9_write_17 : decode cX9_write 17 = .ok (.sipush 200, 3) := by decide +kernel
theorem dX9_write_20 : decode cX9_write 20 = .ok (.if_icmp .ne 6, 3) := by decide +kernel
theorem dX9_write_23 : decode cX9_write 23 = .ok (.bipush (-3), 2) := by decide +kernel
theorem dX9_write_25 : decode cX9_write 25 = .ok (.ireturn, 1) := by decide +kernel
theorem dX9_write_26 : decode cX9_write 26 = .ok (.aload_n 0, 1) := by decide +kernel
theorem dX9_write_27 : decode cX9_write 27 = .ok (.getfield 7, 3) := by decide +kernel
theorem dX9_write_30 : decode cX9_write 30 = .ok (.aload_n 0, 1) := by decide +kernel
theorem dX9_write_31 : decode cX9_write 31 = .ok (.getfield 63, 3) := by decide +kernel
theorem dX9_write_34 : decode cX9_write 34 = .ok (.iload_n 1, 1) := by decide +kernel
theorem dX9_write_35 : decode cX9_write 35 = .ok (.iastore, 1) := by decide +kernel
theorem dX9_write_36 : decode cX9_write 36 = .ok (.aload_n 0, 1) := by decide +kernel
theorem dX9_write_37 : decode cX9_write 37 = .ok (.dup, 1) := by decide +kernel
theorem dX9_write_38 : decode cX9_write 38 = .ok (.getfield 63, 3) := by decide +kernel
theorem dX9_write_41 : decode cX9_write 41 = .ok (.iconst 1, 1) := by decide +kernel
theorem dX9_write_42 : decode cX9_write 42 = .ok (.iadd, 1) := by decide +kernel
theorem dX9_write_43 : decode cX9_write 43 = .ok (.putfield 63, 3) := by decide +kernel
theorem dX9_write_46 : decode cX9_write 46 = .ok (.aload_n 0, 1) := by decide +kernel
theorem dX9_write_47 : decode cX9_write 47 = .ok (.getfield 63, 3) := by decide +kernel
theorem dX9_write_50 : decode cX9_write 50 = .ok (.ireturn, 1) := by decide +kernel
theorem dX9_wipe_0 : decode cX9_wipe 0 = .ok (.aload_n 0, 1) := by decide +kernel
theorem dX9_wipe_1 : decode cX9_wipe 1 = .ok (.getfield 63, 3) := by decide +kernel
theorem dX9_wipe_4 : decode cX9_wipe 4 = .ok (.istore_n 1, 1) := by decide +kernel
theorem dX9_wipe_5 : decode cX9_wipe 5 = .ok (.aload_n 0, 1) := by decide +kernel
theorem dX9_wipe_6 : decode cX9_wipe 6 = .ok (.iconst 0, 1) := by decide +kernel
theorem dX9_wipe_7 : decode cX9_wipe 7 = .ok (.putfield 63, 3) := by decide +kernel
theorem dX9_wipe_10 : decode cX9_wipe 10 = .ok (.iload_n 1, 1) := by decide +kernel
theorem dX9_wipe_11 : decode cX9_wipe 11 = .ok (.ireturn, 1) := by decide +kernel
set_option maxRecDepth 20000 in
theorem ggX9_fault_X9_parse : GoodIn wsX9_fault wsX9_parse := goodIn_r _ [5, 6, 7, 8, 9, 10, 11, 4, 12, 13, 14, 15, 16, 17, 18, 19, 20, 21, 22, 23, 24, 25, 26, 27, 28, 29, 30, 31, 32, 33, 34, 35, 36, 37, 38, 39, 40, 41, 42, 43, 44, 45, 46, 47, 48, 49, 50, 51, 52, 53, 54, 55, 56, 57, 58, 59, 60, 61] (by decide +kernel) (by decide +kernel)
set_option maxRecDepth 20000 in
theorem gX9_fault_X9_parse : GoodIn wsX9_fault (wsV RX9 87 RX9 yX9_parse wsX9_parse) := goodIn_app (goodIn_of _ (by decide +kernel)) ggX9_fault_X9_parse
theorem dX9_fault_0 : decode cX9_fault 0 = .ok (.aload_n 0, 1) := by decide +kernel
theorem dX9_fault_1 : decode cX9_fault 1 = .ok (.invokevirtual 87, 3) := by decide +kernel
theorem dX9_fault_4 : decode cX9_fault 4 = .ok (.ireturn, 1) := by decide +kernel
set_option maxRecDepth 20000 in
theorem ggX9_lay_X9_parse : GoodIn wsX9_lay wsX9_parse := goodIn_r _ [7, 8, 9, 10, 11, 12, 13, 6, 14, 1, 15, 16, 17, 18, 19, 20, 21, 22, 23, 24, 25, 26, 27, 28, 29, 30, 31, 32, 33, 34, 35, 36, 37, 38, 39, 40, 41, 42, 43, 44, 53, 54, 55, 56, 57, 58, 59, 60, 61, 62, 63, 64, 65, 66, 67, 68, 69, 70] (by decide +kernel) (by decide +kernel)
set_option maxRecDepth 20000 in
theorem gX9_lay_X9_parse : GoodIn wsX9_lay (wsV RX9 87 RX9 yX9_parse wsX9_parse) := goodIn_app (goodIn_of _ (by decide +kernel)) ggX9_lay_X9_parse
set_option maxRecDepth 20000 in
theorem ggX9_lay_X9_takeRead : GoodIn wsX9_lay wsX9_takeRead := goodIn_r _ [48, 1, 2, 40, 49, 50, 15, 51, 52, 53, 54, 55, 56, 57, 58, 59, 60, 61, 62, 63, 64, 65, 66, 67, 68, 69, 70] (by decide +kernel) (by decide +kernel)
set_option maxRecDepth 20000 in
theorem gX9_lay_X9_takeRead : GoodIn wsX9_lay (wsV RX9 47 RX9 yX9_takeRead wsX9_takeRead) := goodIn_app (goodIn_of _ (by decide +kernel)) ggX9_lay_X9_takeRead
theorem dX9_lay_0 : decode cX9_lay 0 = .ok (.aload_n 0, 1) := by decide +kernel
theorem dX9_lay_1 : decode cX9_lay 1 = .ok (.invokevirtual 87, 3) := by decide +kernel
theorem dX9_lay_4 : decode cX9_lay 4 = .ok (.bipush (-4), 2) := by decide +kernel
theorem dX9_lay_6 : decode cX9_lay 6 = .ok (.if_icmp .ne 10, 3) := by decide +kernel
theorem dX9_lay_9 : decode cX9_lay 9 = .ok (.aload_n 0, 1) := by decide +kernel
theorem dX9_lay_10 : decode cX9_lay 10 = .ok (.getfield 50, 3) := by decide +kernel
theorem dX9_lay_13 : decode cX9_lay 13 = .ok (.ifCond .ne 6, 3) := by decide +kernel
theorem dX9_lay_16 : decode cX9_lay 16 = .ok (.bipush (-2), 2) := by decide +kernel
theorem dX9_lay_18 : decode cX9_lay 18 = .ok (.ireturn, 1) := by decide +kernel
theorem dX9_lay_19 : decode cX9_lay 19 = .ok (.aload_n 0, 1) := by decide +kernel
theorem dX9_lay_20 : decode cX9_lay 20 = .ok (.invokevirtual 47, 3) := by decide +kernel
theorem dX9_lay_23 : decode cX9_lay 23 = .ok (.aload_n 0, 1) := by decide +kernel
theorem dX9_lay_24 : decode cX9_lay 24 = .ok (.getfield 54, 3) := by decide +kernel
theorem dX9_lay_27 : decode cX9_lay 27 = .ok (.ireturn, 1) := by decide +kernel
theorem dX9_heapLength_0 : decode cX9_heapLength 0 = .ok (.aload_n 0, 1) := by decide +kernel
theorem dX9_heapLength_1 : decode cX9_heapLength 1 = .ok (.getfield 19, 3) := by decide +kernel
theorem dX9_heapLength_4 : decode cX9_heapLength 4 = .ok (.iconst 3, 1) := by decide +kernel
theorem dX9_heapLength_5 : decode cX9_heapLength 5 = .ok (.iload_n 1, 1) := by decide +kernel
theorem dX9_heapLength_6 : decode cX9_heapLength 6 = .ok (.imul, 1) := by decide +kernel
theorem dX9_heapLength_7 : decode cX9_heapLength 7 = .ok (.iaload, 1) := by decide +kernel
theorem dX9_heapLength_8 : decode cX9_heapLength 8 = .ok (.ireturn, 1) := by decide +kernel
theorem dX9_breadth_0 : decode cX9_breadth 0 = .ok (.aload_n 0, 1) := by decide +kernel
theorem dX9_breadth_1 : decode cX9_breadth 1 = .ok (.getfield 19, 3) := by decide +kernel
theorem dX9_breadth_4 : decode cX9_breadth 4 = .ok (.iconst 3, 1) := by decide +kernel
theorem dX9_breadth_5 : decode cX9_breadth 5 = .ok (.iload_n 1, 1) := by decide +kernel
theorem dX9_breadth_6 : decode cX9_breadth 6 = .ok (.imul, 1) := by decide +kernel
theorem dX9_breadth_7 : decode cX9_breadth 7 = .ok (.iconst 1, 1) := by decide +kernel
theorem dX9_breadth_8 : decode cX9_breadth 8 = .ok (.iadd, 1) := by decide +kernel
theorem dX9_breadth_9 : decode cX9_breadth 9 = .ok (.iaload, 1) := by decide +kernel
theorem dX9_breadth_10 : decode cX9_breadth 10 = .ok (.ireturn, 1) := by decide +kernel
theorem dX9_courseLength_0 : decode cX9_courseLength 0 = .ok (.aload_n 0, 1) := by decide +kernel
theorem dX9_courseLength_1 : decode cX9_courseLength 1 = .ok (.getfield 25, 3) := by decide +kernel
theorem dX9_courseLength_4 : decode cX9_courseLength 4 = .ok (.bipush 9, 2) := by decide +kernel
theorem dX9_courseLength_6 : decode cX9_courseLength 6 = .ok (.bipush 62, 2) := by decide +kernel
theorem dX9_courseLength_8 : decode cX9_courseLength 8 = .ok (.iload_n 1, 1) := by decide +kernel
theorem dX9_courseLength_9 : decode cX9_courseLength 9 = .ok (.imul, 1) := by decide +kernel
theorem dX9_courseLength_10 : decode cX9_courseLength 10 = .ok (.iadd, 1) := by decide +kernel
theorem dX9_courseLength_11 : decode cX9_courseLength 11 = .ok (.iaload, 1) := by decide +kernel
theorem dX9_courseLength_12 : decode cX9_courseLength 12 = .ok (.ireturn, 1) := by decide +kernel
theorem dX9_slateCount_0 : decode cX9_slateCount 0 = .ok (.aload_n 0, 1) := by decide +kernel
theorem dX9_slateCount_1 : decode cX9_slateCount 1 = .ok (.getfield 25, 3) := by decide +kernel
theorem dX9_slateCount_4 : decode cX9_slateCount 4 = .ok (.bipush 9, 2) := by decide +kernel
theorem dX9_slateCount_6 : decode cX9_slateCount 6 = .ok (.bipush 62, 2) := by decide +kernel
theorem dX9_slateCount_8 : decode cX9_slateCount 8 = .ok (.iload_n 1, 1) := by decide +kernel
theorem dX9_slateCount_9 : decode cX9_slateCount 9 = .ok (.imul, 1) := by decide +kernel
theorem dX9_slateCount_10 : decode cX9_slateCount 10 = .ok (.iadd, 1) := by decide +kernel
theorem dX9_slateCount_11 : decode cX9_slateCount 11 = .ok (.iconst 1, 1) := by decide +kernel
theorem dX9_slateCount_12 : decode cX9_slateCount 12 = .ok (.iadd, 1) := by decide +kernel
theorem dX9_slateCount_13 : decode cX9_slateCount 13 = .ok (.iaload, 1) := by decide +kernel
theorem dX9_slateCount_14 : decode cX9_slateCount 14 = .ok (.ireturn, 1) := by decide +kernel
theorem dX9_slateOf_0 : decode cX9_slateOf 0 = .ok (.aload_n 0, 1) := by decide +kernel
theorem dX9_slateOf_1 : decode cX9_slateOf 1 = .ok (.getfield 25, 3) := by decide +kernel
theorem dX9_slateOf_4 : decode cX9_slateOf 4 = .ok (.bipush 9, 2) := by decide +kernel
theorem dX9_slateOf_6 : decode cX9_slateOf 6 = .ok (.bipush 62, 2) := by decide +kernel
theorem dX9_slateOf_8 : decode cX9_slateOf 8 = .ok (.iload_n 1, 1) := by decide +kernel
theorem dX9_slateOf_9 : decode cX9_slateOf 9 = .ok (.imul, 1) := by decide +kernel
theorem dX9_slateOf_10 : decode cX9_slateOf 10 = .ok (.iadd, 1) := by decide +kernel
theorem dX9_slateOf_11 : decode cX9_slateOf 11 = .ok (.iconst 2, 1) := by decide +kernel
theorem dX9_slateOf_12 : decode cX9_slateOf 12 = .ok (.iadd, 1) := by decide +kernel
theorem dX9_slateOf_13 : decode cX9_slateOf 13 = .ok (.iload_n 2, 1) := by decide +kernel
theorem dX9_slateOf_14 : decode cX9_slateOf 14 = .ok (.iadd, 1) := by decide +kernel
theorem dX9_slateOf_15 : decode cX9_slateOf 15 = .ok (.iaload, 1) := by decide +kernel
theorem dX9_slateOf_16 : decode cX9_slateOf 16 = .ok (.ireturn, 1) := by decide +kernel
theorem dX9_gauge_0 : decode cX9_gauge 0 = .ok (.iload_n 1, 1) := by decide +kernel
theorem dX9_gauge_1 : decode cX9_gauge 1 = .ok (.aload_n 0, 1) := by decide +kernel
theorem dX9_gauge_2 : decode cX9_gauge 2 = .ok (.getfield 13, 3) := by decide +kernel
theorem dX9_gauge_5 : decode cX9_gauge 5 = .ok (.iconst 2, 1) := by decide +kernel
theorem dX9_gauge_6 : decode cX9_gauge 6 = .ok (.iaload, 1) := by decide +kernel
theorem dX9_gauge_7 : decode cX9_gauge 7 = .ok (.isub, 1) := by decide +kernel
theorem dX9_gauge_8 : decode cX9_gauge 8 = .ok (.iconst 2, 1) := by decide +kernel
theorem dX9_gauge_9 : decode cX9_gauge 9 = .ok (.idiv, 1) := by decide +kernel
theorem dX9_gauge_10 : decode cX9_gauge 10 = .ok (.ireturn, 1) := by decide +kernel
set_option maxRecDepth 20000 in
theorem ggX9_foot_X9_courseLength : GoodIn wsX9_foot wsX9_courseLength := goodIn_r _ [5, 6, 12, 13, 14, 15, 16, 17, 18, 19, 20, 21, 22, 23, 24, 25, 26, 27, 28, 29] (by decide +kernel) (by decide +kernel)
set_option maxRecDepth 20000 in
theorem gX9_foot_X9_courseLength : GoodIn wsX9_foot (wsV RX9 91 RX9 yX9_courseLength wsX9_courseLength) := goodIn_app (goodIn_of _ (by decide +kernel)) ggX9_foot_X9_courseLength
set_option maxRecDepth 20000 in
theorem ggX9_foot_X9_gauge : GoodIn wsX9_foot wsX9_gauge := goodIn_r _ [10, 11, 12, 13, 14, 15, 16, 17, 18, 19, 20, 21, 22, 23, 24, 25, 26, 27, 28, 29] (by decide +kernel) (by decide +kernel)
set_option maxRecDepth 20000 in
theorem gX9_foot_X9_gauge : GoodIn wsX9_foot (wsV RX9 95 RX9 yX9_gauge wsX9_gauge) := goodIn_app (goodIn_of _ (by decide +kernel)) ggX9_foot_X9_gauge
theorem dX9_foot_0 : decode cX9_foot 0 = .ok (.iconst 0, 1) := by decide +kernel
theorem dX9_foot_1 : decode cX9_foot 1 = .ok (.istore_n 2, 1) := by decide +kernel
theorem dX9_foot_2 : decode cX9_foot 2 = .ok (.iconst 0, 1) := by decide +kernel
theorem dX9_foot_3 : decode cX9_foot 3 = .ok (.istore_n 3, 1) := by decide +kernel
theorem dX9_foot_4 : decode cX9_foot 4 = .ok (.iload_n 3, 1) := by decide +kernel
theorem dX9_foot_5 : decode cX9_foot 5 = .ok (.iload_n 1, 1) := by decide +kernel
theorem dX9_foot_6 : decode cX9_foot 6 = .ok (.if_icmp .ge 21, 3) := by decide +kernel
theorem dX9_foot_9 : decode cX9_foot 9 = .ok (.iload_n 2, 1) := by decide +kernel
theorem dX9_foot_10 : decode cX9_foot 10 = .ok (.aload_n 0, 1) := by decide +kernel
theorem dX9_foot_11 : decode cX9_foot 11 = .ok (.aload_n 0, 1) := by decide +kernel
theorem dX9_foot_12 : decode cX9_foot 12 = .ok (.iload_n 3, 1) := by decide +kernel
theorem dX9_foot_13 : decode cX9_foot 13 = .ok (.invokevirtual 91, 3) := by decide +kernel
theorem dX9_foot_16 : decode cX9_foot 16 = .ok (.invokevirtual 95, 3) := by decide +kernel
theorem dX9_foot_19 : decode cX9_foot 19 = .ok (.iadd, 1) := by decide +kernel
theorem dX9_foot_20 : decode cX9_foot 20 = .ok (.istore_n 2, 1) := by decide +kernel
theorem dX9_foot_21 : decode cX9_foot 21 = .ok (.iinc 3 1, 3) := by decide +kernel
theorem dX9_foot_24 : decode cX9_foot 24 = .ok (.goto (-20), 3) := by decide +kernel
theorem dX9_foot_27 : decode cX9_foot 27 = .ok (.iload_n 2, 1) := by decide +kernel
theorem dX9_foot_28 : decode cX9_foot 28 = .ok (.ireturn, 1) := by decide +kernel
set_option maxRecDepth 20000 in
theorem ggX9_room_X9_foot : GoodIn wsX9_room wsX9_foot := goodIn_r _ [6, 7, 8, 9, 5, 10, 11, 12, 13, 14, 15, 1, 16, 17, 18, 19, 20, 21, 22, 23, 24, 25, 26, 27, 28, 29, 30, 31, 32, 33] (by decide +kernel) (by decide +kernel)
set_option maxRecDepth 20000 in
theorem gX9_room_X9_foot : GoodIn wsX9_room (wsV RX9 98 RX9 yX9_foot wsX9_foot) := goodIn_app (goodIn_of _ (by decide +kernel)) ggX9_room_X9_foot
theorem dX9_room_0 : decode cX9_room 0 = .ok (.aload_n 0, 1) := by decide +kernel
theorem dX9_room_1 : decode cX9_room 1 = .ok (.getfield 13, 3) := by decide +kernel
theorem dX9_room_4 : decode cX9_room 4 = .ok (.iconst 1, 1) := by decide +kernel
theorem dX9_room_5 : decode cX9_room 5 = .ok (.iaload, 1) := by decide +kernel
theorem dX9_room_6 : decode cX9_room 6 = .ok (.aload_n 0, 1) := by decide +kernel
theorem dX9_room_7 : decode cX9_room 7 = .ok (.getfield 13, 3) := by decide +kernel
theorem dX9_room_10 : decode cX9_room 10 = .ok (.iconst 4, 1) := by decide +kernel
theorem dX9_room_11 : decode cX9_room 11 = .ok (.iaload, 1) := by decide +kernel
theorem dX9_room_12 : decode cX9_room 12 = .ok (.aload_n 0, 1) := by decide +kernel
theorem dX9_room_13 : decode cX9_room 13 = .ok (.iload_n 1, 1) := by decide +kernel
theorem dX9_room_14 : decode cX9_room 14 = .ok (.invokevirtual 98, 3) := by decide +kernel
theorem dX9_room_17 : decode cX9_room 17 = .ok (.imul, 1) := by decide +kernel
theorem dX9_room_18 : decode cX9_room 18 = .ok (.bipush 10, 2) := by decide +kernel
theorem dX9_room_20 : decode cX9_room 20 = .ok (.idiv, 1) := by decide +kernel
theorem dX9_room_21 : decode cX9_room 21 = .ok (.isub, 1) := by decide +kernel
theorem dX9_room_22 : decode cX9_room 22 = .ok (.istore_n 2, 1) := by decide +kernel
theorem dX9_room_23 : decode cX9_room 23 = .ok (.iload_n 2, 1) := by decide +kernel
theorem dX9_room_24 : decode cX9_room 24 = .ok (.bipush 20, 2) := by decide +kernel
theorem dX9_room_26 : decode cX9_room 26 = .ok (.if_icmp .ge 8, 3) := by decide +kernel
theorem dX9_room_29 : decode cX9_room 29 = .ok (.bipush 20, 2) := by decide +kernel
theorem dX9_room_31 : decode cX9_room 31 = .ok (.goto 4, 3) := by decide +kernel
theorem dX9_room_34 : decode cX9_room 34 = .ok (.iload_n 2, 1) := by decide +kernel
theorem dX9_room_35 : decode cX9_room 35 = .ok (.ireturn, 1) := by decide +kernel
set_option maxRecDepth 20000 in
theorem ggX9_isReady_X9_foot : GoodIn wsX9_isReady wsX9_foot := goodIn_r _ [7, 8, 9, 10, 6, 11, 1, 12, 13, 14, 15, 2, 16, 17, 18, 19, 20, 21, 22, 23, 24, 25, 26, 27, 28, 29, 30, 31, 32, 33] (by decide +kernel) (by decide +kernel)
set_option maxRecDepth 20000 in
theorem gX9_isReady_X9_foot : GoodIn wsX9_isReady (wsV RX9 98 RX9 yX9_foot wsX9_foot) := goodIn_app (goodIn_of _ (by decide +kernel)) ggX9_isReady_X9_foot
theorem dX9_isReady_0 : decode cX9_isReady 0 = .ok (.aload_n 0, 1) := by decide +kernel
theorem dX9_isReady_1 : decode cX9_isReady 1 = .ok (.getfield 25, 3) := by decide +kernel
theorem dX9_isReady_4 : decode cX9_isReady 4 = .ok (.bipush 8, 2) := by decide +kernel
theorem dX9_isReady_6 : decode cX9_isReady 6 = .ok (.iaload, 1) := by decide +kernel
theorem dX9_isReady_7 : decode cX9_isReady 7 = .ok (.ifCond .le 27, 3) := by decide +kernel
theorem dX9_isReady_10 : decode cX9_isReady 10 = .ok (.aload_n 0, 1) := by decide +kernel
theorem dX9_isReady_11 : decode cX9_isReady 11 = .ok (.aload_n 0, 1) := by decide +kernel
theorem dX9_isReady_12 : decode cX9_isReady 12 = .ok (.getfield 25, 3) := by decide +kernel
theorem dX9_isReady_15 : decode cX9_isReady 15 = .ok (.bipush 8, 2) := by decide +kernel
theorem dX9_isReady_17 : decode cX9_isReady 17 = .ok (.iaload, 1) := by decide +kernel
theorem dX9_isReady_18 : decode cX9_isReady 18 = .ok (.invokevirtual 98, 3) := by decide +kernel
theorem dX9_isReady_21 : decode cX9_isReady 21 = .ok (.aload_n 0, 1) := by decide +kernel
theorem dX9_isReady_22 : decode cX9_isReady 22 = .ok (.getfield 13, 3) := by decide +kernel
theorem dX9_isReady_25 : decode cX9_isReady 25 = .ok (.iconst 0, 1) := by decide +kernel
theorem dX9_isReady_26 : decode cX9_isReady 26 = .ok (.iaload, 1) := by decide +kernel
theorem dX9_isReady_27 : decode cX9_isReady 27 = .ok (.if_icmp .lt 7, 3) := by decide +kernel
theorem dX9_isReady_30 : decode cX9_isReady 30 = .ok (.iconst 1, 1) := by decide +kernel
theorem dX9_isReady_31 : decode cX9_isReady 31 = .ok (.goto 4, 3) := by decide +kernel
theorem dX9_isReady_34 : decode cX9_isReady 34 = .ok (.iconst 0, 1) := by decide +kernel
theorem dX9_isReady_35 : decode cX9_isReady 35 = .ok (.ireturn, 1) := by decide +kernel
set_option maxRecDepth 20000 in
theorem ggX9_waste_X9_slateCount : GoodIn wsX9_waste wsX9_slateCount := goodIn_r _ [5, 6, 20, 21, 22, 23, 24, 25, 26, 27, 28, 29, 30, 31, 32, 33, 34, 35, 36, 37] (by decide +kernel) (by decide +kernel)
set_option maxRecDepth 20000 in
theorem gX9_waste_X9_slateCount : GoodIn wsX9_waste (wsV RX9 101 RX9 yX9_slateCount wsX9_slateCount) := goodIn_app (goodIn_of _ (by decide +kernel)) ggX9_waste_X9_slateCount
set_option maxRecDepth 20000 in
theorem ggX9_waste_X9_slateOf : GoodIn wsX9_waste wsX9_slateOf := goodIn_r _ [10, 6, 20, 21, 22, 23, 24, 25, 26, 27, 28, 29, 30, 31, 32, 33, 34, 35, 36, 37] (by decide +kernel) (by decide +kernel)
set_option maxRecDepth 20000 in
theorem gX9_waste_X9_slateOf : GoodIn wsX9_waste (wsV RX9 104 RX9 yX9_slateOf wsX9_slateOf) := goodIn_app (goodIn_of _ (by decide +kernel)) ggX9_waste_X9_slateOf
set_option maxRecDepth 20000 in
theorem ggX9_waste_X9_breadth : GoodIn wsX9_waste wsX9_breadth := goodIn_r _ [14, 15, 20, 21, 22, 23, 24, 25, 26, 27, 28, 29, 30, 31, 32, 33, 34, 35, 36, 37] (by decide +kernel) (by decide +kernel)
set_option maxRecDepth 20000 in
theorem gX9_waste_X9_breadth : GoodIn wsX9_waste (wsV RX9 108 RX9 yX9_breadth wsX9_breadth) := goodIn_app (goodIn_of _ (by decide +kernel)) ggX9_waste_X9_breadth
set_option maxRecDepth 20000 in
theorem ggX9_waste_X9_courseLength : GoodIn wsX9_waste wsX9_courseLength := goodIn_r _ [19, 6, 20, 21, 22, 23, 24, 25, 26, 27, 28, 29, 30, 31, 32, 33, 34, 35, 36, 37] (by decide +kernel) (by decide +kernel)
set_option maxRecDepth 20000 in
theorem gX9_waste_X9_courseLength : GoodIn wsX9_waste (wsV RX9 91 RX9 yX9_courseLength wsX9_courseLength) := goodIn_app (goodIn_of _ (by decide +kernel)) ggX9_waste_X9_courseLength
theorem dX9_waste_0 : decode cX9_waste 0 = .ok (.iconst 0, 1) := by decide +kernel
theorem dX9_waste_1 : decode cX9_waste 1 = .ok (.istore_n 2, 1) := by decide +kernel
theorem dX9_waste_2 : decode cX9_waste 2 = .ok (.iconst 0, 1) := by decide +kernel
theorem dX9_waste_3 : decode cX9_waste 3 = .ok (.istore_n 3, 1) := by decide +kernel
theorem dX9_waste_4 : decode cX9_waste 4 = .ok (.iload_n 3, 1) := by decide +kernel
theorem dX9_waste_5 : decode cX9_waste 5 = .ok (.aload_n 0, 1) := by decide +kernel
theorem dX9_waste_6 : decode cX9_waste 6 = .ok (.iload_n 1, 1) := by decide +kernel
theorem dX9_waste_7 : decode cX9_waste 7 = .ok (.invokevirtual 101, 3) := by decide +kernel
theorem dX9_waste_10 : decode cX9_waste 10 = .ok (.if_icmp .ge 35, 3) := by decide +kernel
theorem dX9_waste_13 : decode cX9_waste 13 = .ok (.iload_n 2, 1) := by decide +kernel
theorem dX9_waste_14 : decode cX9_waste 14 = .ok (.aload_n 0, 1) := by decide +kernel
theorem dX9_waste_15 : decode cX9_waste 15 = .ok (.aload_n 0, 1) := by decide +kernel
theorem dX9_waste_16 : decode cX9_waste 16 = .ok (.iload_n 1, 1) := by decide +kernel
theorem dX9_waste_17 : decode cX9_waste 17 = .ok (.iload_n 3, 1) := by decide +kernel
theorem dX9_waste_18 : decode cX9_waste 18 = .ok (.invokevirtual 104, 3) := by decide +kernel
theorem dX9_waste_21 : decode cX9_waste 21 = .ok (.bipush 64, 2) := by decide +kernel
theorem dX9_waste_23 : decode cX9_waste 23 = .ok (.idiv, 1) := by decide +kernel
theorem dX9_waste_24 : decode cX9_waste 24 = .ok (.invokevirtual 108, 3) := by decide +kernel
theorem dX9_waste_27 : decode cX9_waste 27 = .ok (.aload_n 0, 1) := by decide +kernel
theorem dX9_waste_28 : decode cX9_waste 28 = .ok (.iload_n 1, 1) := by decide +kernel
theorem dX9_waste_29 : decode cX9_waste 29 = .ok (.iload_n 3, 1) := by decide +kernel
theorem dX9_waste_30 : decode cX9_waste 30 = .ok (.invokevirtual 104, 3) := by decide +kernel
theorem dX9_waste_33 : decode cX9_waste 33 = .ok (.bipush 64, 2) := by decide +kernel
theorem dX9_waste_35 : decode cX9_waste 35 = .ok (.irem, 1) := by decide +kernel
theorem dX9_waste_36 : decode cX9_waste 36 = .ok (.isub, 1) := by decide +kernel
theorem dX9_waste_37 : decode cX9_waste 37 = .ok (.iadd, 1) := by decide +kernel
theorem dX9_waste_38 : decode cX9_waste 38 = .ok (.istore_n 2, 1) := by decide +kernel
theorem dX9_waste_39 : decode cX9_waste 39 = .ok (.iinc 3 1, 3) := by decide +kernel
theorem dX9_waste_42 : decode cX9_waste 42 = .ok (.goto (-38), 3) := by decide +kernel
theorem dX9_waste_45 : decode cX9_waste 45 = .ok (.iload_n 2, 1) := by decide +kernel
theorem dX9_waste_46 : decode cX9_waste 46 = .ok (.aload_n 0, 1) := by decide +kernel
theorem dX9_waste_47 : decode cX9_waste 47 = .ok (.iload_n 1, 1) := by decide +kernel
theorem dX9_waste_48 : decode cX9_waste 48 = .ok (.invokevirtual 91, 3) := by decide +kernel
theorem dX9_waste_51 : decode cX9_waste 51 = .ok (.imul, 1) := by decide +kernel
theorem dX9_waste_52 : decode cX9_waste 52 = .ok (.ireturn, 1) := by decide +kernel
set_option maxRecDepth 20000 in
theorem ggX9_cutCount_X9_slateCount : GoodIn wsX9_cutCount wsX9_slateCount := goodIn_r _ [5, 6, 16, 17, 18, 19, 20, 21, 22, 23, 24, 25, 26, 27, 28, 29, 30, 31, 32, 33] (by decide +kernel) (by decide +kernel)
set_option maxRecDepth 20000 in
theorem gX9_cutCount_X9_slateCount : GoodIn wsX9_cutCount (wsV RX9 101 RX9 yX9_slateCount wsX9_slateCount) := goodIn_app (goodIn_of _ (by decide +kernel)) ggX9_cutCount_X9_slateCount
set_option maxRecDepth 20000 in
theorem ggX9_cutCount_X9_slateOf : GoodIn wsX9_cutCount wsX9_slateOf := goodIn_r _ [10, 6, 16, 17, 18, 19, 20, 21, 22, 23, 24, 25, 26, 27, 28, 29, 30, 31, 32, 33] (by decide +kernel) (by decide +kernel)
set_option maxRecDepth 20000 in
theorem gX9_cutCount_X9_slateOf : GoodIn wsX9_cutCount (wsV RX9 104 RX9 yX9_slateOf wsX9_slateOf) := goodIn_app (goodIn_of _ (by decide +kernel)) ggX9_cutCount_X9_slateOf
set_option maxRecDepth 20000 in
theorem ggX9_cutCount_X9_breadth : GoodIn wsX9_cutCount wsX9_breadth := goodIn_r _ [14, 15, 16, 17, 18, 19, 20, 21, 22, 23, 24, 25, 26, 27, 28, 29, 30, 31, 32, 33] (by decide +kernel) (by decide +kernel)
set_option maxRecDepth 20000 in
theorem gX9_cutCount_X9_breadth : GoodIn wsX9_cutCount (wsV RX9 108 RX9 yX9_breadth wsX9_breadth) := goodIn_app (goodIn_of _ (by decide +kernel)) ggX9_cutCount_X9_breadth
theorem dX9_cutCount_0 : decode cX9_cutCount 0 = .ok (.iconst 0, 1) := by decide +kernel
theorem dX9_cutCount_1 : decode cX9_cutCount 1 = .ok (.istore_n 2, 1) := by decide +kernel
theorem dX9_cutCount_2 : decode cX9_cutCount 2 = .ok (.iconst 0, 1) := by decide +kernel
theorem dX9_cutCount_3 : decode cX9_cutCount 3 = .ok (.istore_n 3, 1) := by decide +kernel
theorem dX9_cutCount_4 : decode cX9_cutCount 4 = .ok (.iload_n 3, 1) := by decide +kernel
theorem dX9_cutCount_5 : decode cX9_cutCount 5 = .ok (.aload_n 0, 1) := by decide +kernel
theorem dX9_cutCount_6 : decode cX9_cutCount 6 = .ok (.iload_n 1, 1) := by decide +kernel
theorem dX9_cutCount_7 : decode cX9_cutCount 7 = .ok (.invokevirtual 101, 3) := by decide +kernel
theorem dX9_cutCount_10 : decode cX9_cutCount 10 = .ok (.if_icmp .ge 42, 3) := by decide +kernel
theorem dX9_cutCount_13 : decode cX9_cutCount 13 = .ok (.iload_n 2, 1) := by decide +kernel
theorem dX9_cutCount_14 : decode cX9_cutCount 14 = .ok (.aload_n 0, 1) := by decide +kernel
theorem dX9_cutCount_15 : decode cX9_cutCount 15 = .ok (.iload_n 1, 1) := by decide +kernel
theorem dX9_cutCount_16 : decode cX9_cutCount 16 = .ok (.iload_n 3, 1) := by decide +kernel
theorem dX9_cutCount_17 : decode cX9_cutCount 17 = .ok (.invokevirtual 104, 3) := by decide +kernel
theorem dX9_cutCount_20 : decode cX9_cutCount 20 = .ok (.bipush 64, 2) := by decide +kernel
theorem dX9_cutCount_22 : decode cX9_cutCount 22 = .ok (.irem, 1) := by decide +kernel
theorem dX9_cutCount_23 : decode cX9_cutCount 23 = .ok (.aload_n 0, 1) := by decide +kernel
theorem dX9_cutCount_24 : decode cX9_cutCount 24 = .ok (.aload_n 0, 1) := by decide +kernel
theorem dX9_cutCount_25 : decode cX9_cutCount 25 = .ok (.iload_n 1, 1) := by decide +kernel
theorem dX9_cutCount_26 : decode cX9_cutCount 26 = .ok (.iload_n 3, 1) := by decide +kernel
theorem dX9_cutCount_27 : decode cX9_cutCount 27 = .ok (.invokevirtual 104, 3) := by decide +kernel
theorem dX9_cutCount_30 : decode cX9_cutCount 30 = .ok (.bipush 64, 2) := by decide +kernel
theorem dX9_cutCount_32 : decode cX9_cutCount 32 = .ok (.idiv, 1) := by decide +kernel
theorem dX9_cutCount_33 : decode cX9_cutCount 33 = .ok (.invokevirtual 108, 3) := by decide +kernel
theorem dX9_cutCount_36 : decode cX9_cutCount 36 = .ok (.if_icmp .ge 7, 3) := by decide +kernel
theorem dX9_cutCount_39 : decode cX9_cutCount 39 = .ok (.iconst 1, 1) := by decide +kernel
theorem dX9_cutCount_40 : decode cX9_cutCount 40 = .ok (.goto 4, 3) := by decide +kernel
theorem dX9_cutCount_43 : decode cX9_cutCount 43 = .ok (.iconst 0, 1) := by decide +kernel
theorem dX9_cutCount_44 : decode cX9_cutCount 44 = .ok (.iadd, 1) := by decide +kernel
theorem dX9_cutCount_45 : decode cX9_cutCount 45 = .ok (.istore_n 2, 1) := by decide +kernel
theorem dX9_cutCount_46 : decode cX9_cutCount 46 = .ok (.iinc 3 1, 3) := by decide +kernel
theorem dX9_cutCount_49 : decode cX9_cutCount 49 = .ok (.goto (-45), 3) := by decide +kernel
theorem dX9_cutCount_52 : decode cX9_cutCount 52 = .ok (.iload_n 2, 1) := by decide +kernel
theorem dX9_cutCount_53 : decode cX9_cutCount 53 = .ok (.ireturn, 1) := by decide +kernel
set_option maxRecDepth 20000 in
theorem ggX9_findJoints_X9_slateCount : GoodIn wsX9_findJoints wsX9_slateCount := goodIn_r _ [7, 8, 13, 14, 15, 16, 17, 18, 19, 20, 21, 22, 23, 24, 25, 26, 27, 28, 29, 30] (by decide +kernel) (by decide +kernel)
set_option maxRecDepth 20000 in
theorem gX9_findJoints_X9_slateCount : GoodIn wsX9_findJoints (wsV RX9 101 RX9 yX9_slateCount wsX9_slateCount) := goodIn_app (goodIn_of _ (by decide +kernel)) ggX9_findJoints_X9_slateCount
set_option maxRecDepth 20000 in
theorem ggX9_findJoints_X9_slateOf : GoodIn wsX9_findJoints wsX9_slateOf := goodIn_r _ [12, 8, 13, 14, 15, 16, 17, 18, 19, 20, 21, 22, 23, 24, 25, 26, 27, 28, 29, 30] (by decide +kernel) (by decide +kernel)
set_option maxRecDepth 20000 in
theorem gX9_findJoints_X9_slateOf : GoodIn wsX9_findJoints (wsV RX9 104 RX9 yX9_slateOf wsX9_slateOf) := goodIn_app (goodIn_of _ (by decide +kernel)) ggX9_findJoints_X9_slateOf
theorem dX9_findJoints_0 : decode cX9_findJoints 0 = .ok (.aload_n 0, 1) := by decide +kernel
theorem dX9_findJoints_1 : decode cX9_findJoints 1 = .ok (.iconst 0, 1) := by decide +kernel
theorem dX9_findJoints_2 : decode cX9_findJoints 2 = .ok (.putfield 111, 3) := by decide +kernel
theorem dX9_findJoints_5 : decode cX9_findJoints 5 = .ok (.iconst 0, 1) := by decide +kernel
theorem dX9_findJoints_6 : decode cX9_findJoints 6 = .ok (.istore_n 2, 1) := by decide +kernel
theorem dX9_findJoints_7 : decode cX9_findJoints 7 = .ok (.iconst 0, 1) := by decide +kernel
theorem dX9_findJoints_8 : decode cX9_findJoints 8 = .ok (.istore_n 3, 1) := by decide +kernel
theorem dX9_findJoints_9 : decode cX9_findJoints 9 = .ok (.iload_n 1, 1) := by decide +kernel
theorem dX9_findJoints_10 : decode cX9_findJoints 10 = .ok (.ifCond .lt 49, 3) := by decide +kernel
theorem dX9_findJoints_13 : decode cX9_findJoints 13 = .ok (.iload_n 3, 1) := by decide +kernel
theorem dX9_findJoints_14 : decode cX9_findJoints 14 = .ok (.iconst 1, 1) := by decide +kernel
theorem dX9_findJoints_15 : decode cX9_findJoints 15 = .ok (.iadd, 1) := by decide +kernel
theorem dX9_findJoints_16 : decode cX9_findJoints 16 = .ok (.aload_n 0, 1) := by decide +kernel
theorem dX9_findJoints_17 : decode cX9_findJoints 17 = .ok (.iload_n 1, 1) := by decide +kernel
theorem dX9_findJoints_18 : decode cX9_findJoints 18 = .ok (.invokevirtual 101, 3) := by decide +kernel
theorem dX9_findJoints_21 : decode cX9_findJoints 21 = .ok (.if_icmp .ge 38, 3) := by decide +kernel
theorem dX9_findJoints_24 : decode cX9_findJoints 24 = .ok (.iload_n 2, 1) := by decide +kernel
theorem dX9_findJoints_25 : decode cX9_findJoints 25 = .ok (.aload_n 0, 1) := by decide +kernel
theorem dX9_findJoints_26 : decode cX9_findJoints 26 = .ok (.iload_n 1, 1) := by decide +kernel
theorem dX9_findJoints_27 : decode cX9_findJoints 27 = .ok (.iload_n 3, 1) := by decide +kernel
theorem dX9_findJoints_28 : decode cX9_findJoints 28 = .ok (.invokevirtual 104, 3) := by decide +kernel
theorem dX9_findJoints_31 : decode cX9_findJoints 31 = .ok (.bipush 64, 2) := by decide +kernel
theorem dX9_findJoints_33 : decode cX9_findJoints 33 = .ok (.irem, 1) := by decide +kernel
theorem dX9_findJoints_34 : decode cX9_findJoints 34 = .ok (.iadd, 1) := by decide +kernel
theorem dX9_findJoints_35 : decode cX9_findJoints 35 = .ok (.istore_n 2, 1) := by decide +kernel
theorem dX9_findJoints_36 : decode cX9_findJoints 36 = .ok (.aload_n 0, 1) := by decide +kernel
theorem dX9_findJoints_37 : decode cX9_findJoints 37 = .ok (.getfield 37, 3) := by decide +kernel
theorem dX9_findJoints_40 : decode cX9_findJoints 40 = .ok (.iload_n 3, 1) := by decide +kernel
theorem dX9_findJoints_41 : decode cX9_findJoints 41 = .ok (.iload_n 2, 1) := by decide +kernel
theorem dX9_findJoints_42 : decode cX9_findJoints 42 = .ok (.iastore, 1) := by decide +kernel
theorem dX9_findJoints_43 : decode cX9_findJoints 43 = .ok (.aload_n 0, 1) := by decide +kernel
theorem dX9_findJoints_44 : decode cX9_findJoints 44 = .ok (.dup, 1) := by decide +kernel
theorem dX9_findJoints_45 : decode cX9_findJoints 45 = .ok (.getfield 111, 3) := by decide +kernel
theorem dX9_findJoints_48 : decode cX9_findJoints 48 = .ok (.iconst 1, 1) := by decide +kernel
theorem dX9_findJoints_49 : decode cX9_findJoints 49 = .ok (.iadd, 1) := by decide +kernel
theorem dX9_findJoints_50 : decode cX9_findJoints 50 = .ok (.putfield 111, 3) := by decide +kernel
theorem dX9_findJoints_53 : decode cX9_findJoints 53 = .ok (.iinc 3 1, 3) := by decide +kernel
theorem dX9_findJoints_56 : decode cX9_findJoints 56 = .ok (.goto (-47), 3) := by decide +kernel
theorem dX9_findJoints_59 : decode cX9_findJoints 59 = .ok (.return_, 1) := by decide +kernel
theorem dX9_isBroken_0 : decode cX9_isBroken 0 = .ok (.iconst 1, 1) := by decide +kernel
theorem dX9_isBroken_1 : decode cX9_isBroken 1 = .ok (.istore_n 2, 1) := by decide +kernel
theorem dX9_isBroken_2 : decode cX9_isBroken 2 = .ok (.iconst 0, 1) := by decide +kernel
theorem dX9_isBroken_3 : decode cX9_isBroken 3 = .ok (.istore_n 3, 1) := by decide +kernel
theorem dX9_isBroken_4 : decode cX9_isBroken 4 = .ok (.iload_n 3, 1) := by decide +kernel
theorem dX9_isBroken_5 : decode cX9_isBroken 5 = .ok (.aload_n 0, 1) := by decide +kernel
theorem dX9_isBroken_6 : decode cX9_isBroken 6 = .ok (.getfield 111, 3) := by decide +kernel
theorem dX9_isBroken_9 : decode cX9_isBroken 9 = .ok (.if_icmp .ge 52, 3) := by decide +kernel
theorem dX9_isBroken_12 : decode cX9_isBroken 12 = .ok (.iload_n 1, 1) := by decide +kernel
theorem dX9_isBroken_13 : decode cX9_isBroken 13 = .ok (.aload_n 0, 1) := by decide +kernel
theorem dX9_isBroken_14 : decode cX9_isBroken 14 = .ok (.getfield 37, 3) := by decide +kernel
theorem dX9_isBroken_17 : decode cX9_isBroken 17 = .ok (.iload_n 3, 1) := by decide +kernel
theorem dX9_isBroken_18 : decode cX9_isBroken 18 = .ok (.iaload, 1) := by decide +kernel
theorem dX9_isBroken_19 : decode cX9_isBroken 19 = .ok (.isub, 1) := by decide +kernel
theorem dX9_isBroken_20 : decode cX9_isBroken 20 = .ok (.istore 4, 2) := by decide +kernel
theorem dX9_isBroken_22 : decode cX9_isBroken 22 = .ok (.iload_n 2, 1) := by decide +kernel
theorem dX9_isBroken_23 : decode cX9_isBroken 23 = .ok (.ifCond .eq 30, 3) := by decide +kernel
theorem dX9_isBroken_26 : decode cX9_isBroken 26 = .ok (.iload 4, 2) := by decide +kernel
theorem dX9_isBroken_28 : decode cX9_isBroken 28 = .ok (.aload_n 0, 1) := by decide +kernel
theorem dX9_isBroken_29 : decode cX9_isBroken 29 = .ok (.getfield 13, 3) := by decide +kernel
theorem dX9_isBroken_32 : decode cX9_isBroken 32 = .ok (.iconst 3, 1) := by decide +kernel
theorem dX9_isBroken_33 : decode cX9_isBroken 33 = .ok (.iaload, 1) := by decide +kernel
theorem dX9_isBroken_34 : decode cX9_isBroken 34 = .ok (.if_icmp .ge 15, 3) := by decide +kernel
theorem dX9_isBroken_37 : decode cX9_isBroken 37 = .ok (.iload 4, 2) := by decide +kernel
theorem dX9_isBroken_39 : decode cX9_isBroken 39 = .ok (.aload_n 0, 1) := by decide +kernel
theorem dX9_isBroken_40 : decode cX9_isBroken 40 = .ok (.getfield 13, 3) := by decide +kernel
theorem dX9_isBroken_43 : decode cX9_isBroken 43 = .ok (.iconst 3, 1) := by decide +kernel
theorem dX9_isBroken_44 : decode cX9_isBroken 44 = .ok (.iaload, 1) := by decide +kernel
theorem dX9_isBroken_45 : decode cX9_isBroken 45 = .ok (.ineg, 1) := by decide +kernel
theorem dX9_isBroken_46 : decode cX9_isBroken 46 = .ok (.if_icmp .gt 7, 3) := by decide +kernel
theorem dX9_isBroken_49 : decode cX9_isBroken 49 = .ok (.iconst 1, 1) := by decide +kernel
theorem dX9_isBroken_50 : decode cX9_isBroken 50 = .ok (.goto 4, 3) := by decide +kernel
theorem dX9_isBroken_53 : decode cX9_isBroken 53 = .ok (.iconst 0, 1) := by decide +kernel
theorem dX9_isBroken_54 : decode cX9_isBroken 54 = .ok (.istore_n 2, 1) := by decide +kernel
theorem dX9_isBroken_55 : decode cX9_isBroken 55 = .ok (.iinc 3 1, 3) := by decide +kernel
theorem dX9_isBroken_58 : decode cX9_isBroken 58 = .ok (.goto (-54), 3) := by decide +kernel
theorem dX9_isBroken_61 : decode cX9_isBroken 61 = .ok (.iload_n 2, 1) := by decide +kernel
theorem dX9_isBroken_62 : decode cX9_isBroken 62 = .ok (.ireturn, 1) := by decide +kernel
set_option maxRecDepth 20000 in
theorem ggX9_choose_X9_heapLength : GoodIn wsX9_choose wsX9_heapLength := goodIn_r _ [9, 10, 22, 23, 24, 25, 26, 27, 28, 29, 30, 31, 32, 33, 34, 35, 36, 37, 38, 39] (by decide +kernel) (by decide +kernel)
set_option maxRecDepth 20000 in
theorem gX9_choose_X9_heapLength : GoodIn wsX9_choose (wsV RX9 114 RX9 yX9_heapLength wsX9_heapLength) := goodIn_app (goodIn_of _ (by decide +kernel)) ggX9_choose_X9_heapLength
set_option maxRecDepth 20000 in
theorem ggX9_choose_X9_breadth : GoodIn wsX9_choose wsX9_breadth := goodIn_r _ [14, 10, 22, 23, 24, 25, 26, 27, 28, 29, 30, 31, 32, 33, 34, 35, 36, 37, 38, 39] (by decide +kernel) (by decide +kernel)
set_option maxRecDepth 20000 in
theorem gX9_choose_X9_breadth : GoodIn wsX9_choose (wsV RX9 108 RX9 yX9_breadth wsX9_breadth) := goodIn_app (goodIn_of _ (by decide +kernel)) ggX9_choose_X9_breadth
set_option maxRecDepth 20000 in
theorem ggX9_choose_X9_isBroken : GoodIn wsX9_choose wsX9_isBroken := goodIn_r _ [18, 19, 20, 21, 22, 23, 24, 25, 26, 27, 28, 29, 30, 31, 32, 33, 34, 35, 36, 37, 38, 39] (by decide +kernel) (by decide +kernel)
set_option maxRecDepth 20000 in
theorem gX9_choose_X9_isBroken : GoodIn wsX9_choose (wsV RX9 117 RX9 yX9_isBroken wsX9_isBroken) := goodIn_app (goodIn_of _ (by decide +kernel)) ggX9_choose_X9_isBroken
end
section
theorem dX9_choose_0 : decode cX9_choose 0 = .ok (.bipush (-4), 2) := by decide +kernel
theorem dX9_choose_2 : decode cX9_choose 2 = .ok (.istore 4, 2) := by decide +kernel
theorem dX9_choose_4 : decode cX9_choose 4 = .ok (.bipush (-4), 2) := by decide +kernel
theorem dX9_choose_6 : decode cX9_choose 6 = .ok (.istore 5, 2) := by decide +kernel
theorem dX9_choose_8 : decode cX9_choose 8 = .ok (.bipush (-4), 2) := by decide +kernel
theorem dX9_choose_10 : decode cX9_choose 10 = .ok (.istore 6, 2) := by decide +kernel
theorem dX9_choose_12 : decode cX9_choose 12 = .ok (.iconst 0, 1) := by decide +kernel
theorem dX9_choose_13 : decode cX9_choose 13 = .ok (.istore 7, 2) := by decide +kernel
theorem dX9_choose_15 : decode cX9_choose 15 = .ok (.iload 7, 2) := by decide +kernel
theorem dX9_choose_17 : decode cX9_choose 17 = .ok (.aload_n 0, 1) := by decide +kernel
theorem dX9_choose_18 : decode cX9_choose 18 = .ok (.getfield 54, 3) := by decide +kernel
theorem dX9_choose_21 : decode cX9_choose 21 = .ok (.if_icmp .ge 154, 3) := by decide +kernel
theorem dX9_choose_24 : decode cX9_choose 24 = .ok (.aload_n 0, 1) := by decide +kernel
theorem dX9_choose_25 : decode cX9_choose 25 = .ok (.iload 7, 2) := by decide +kernel
theorem dX9_choose_27 : decode cX9_choose 27 = .ok (.invokevirtual 114, 3) := by decide +kernel
theorem dX9_choose_30 : decode cX9_choose 30 = .ok (.iload_n 1, 1) := by decide +kernel
theorem dX9_choose_31 : decode cX9_choose 31 = .ok (.if_icmp .ne 138, 3) := by decide +kernel
theorem dX9_choose_34 : decode cX9_choose 34 = .ok (.aload_n 0, 1) := by decide +kernel
theorem dX9_choose_35 : decode cX9_choose 35 = .ok (.getfield 25, 3) := by decide +kernel
theorem dX9_choose_38 : decode cX9_choose 38 = .ok (.iload 7, 2) := by decide +kernel
theorem dX9_choose_40 : decode cX9_choose 40 = .ok (.iaload, 1) := by decide +kernel
theorem dX9_choose_41 : decode cX9_choose 41 = .ok (.ifCond .le 128, 3) := by decide +kernel
theorem dX9_choose_44 : decode cX9_choose 44 = .ok (.aload_n 0, 1) := by decide +kernel
theorem dX9_choose_45 : decode cX9_choose 45 = .ok (.iload 7, 2) := by decide +kernel
theorem dX9_choose_47 : decode cX9_choose 47 = .ok (.invokevirtual 108, 3) := by decide +kernel
theorem dX9_choose_50 : decode cX9_choose 50 = .ok (.istore 8, 2) := by decide +kernel
theorem dX9_choose_52 : decode cX9_choose 52 = .ok (.iload_n 2, 1) := by decide +kernel
theorem dX9_choose_53 : decode cX9_choose 53 = .ok (.iload 8, 2) := by decide +kernel
theorem dX9_choose_55 : decode cX9_choose 55 = .ok (.iadd, 1) := by decide +kernel
theorem dX9_choose_56 : decode cX9_choose 56 = .ok (.iload_n 3, 1) := by decide +kernel
theorem dX9_choose_57 : decode cX9_choose 57 = .ok (.if_icmp .lt 7, 3) := by decide +kernel
theorem dX9_choose_60 : decode cX9_choose 60 = .ok (.iconst 1, 1) := by decide +kernel
theorem dX9_choose_61 : decode cX9_choose 61 = .ok (.goto 4, 3) := by decide +kernel
theorem dX9_choose_64 : decode cX9_choose 64 = .ok (.iconst 0, 1) := by decide +kernel
theorem dX9_choose_65 : decode cX9_choose 65 = .ok (.istore 9, 2) := by decide +kernel
theorem dX9_choose_67 : decode cX9_choose 67 = .ok (.iload 9, 2) := by decide +kernel
theorem dX9_choose_69 : decode cX9_choose 69 = .ok (.ifCond .eq 26, 3) := by decide +kernel
theorem dX9_choose_72 : decode cX9_choose 72 = .ok (.iload 4, 2) := by decide +kernel
theorem dX9_choose_74 : decode cX9_choose 74 = .ok (.bipush (-4), 2) := by decide +kernel
theorem dX9_choose_76 : decode cX9_choose 76 = .ok (.if_icmp .eq 14, 3) := by decide +kernel
theorem dX9_choose_79 : decode cX9_choose 79 = .ok (.iload 8, 2) := by decide +kernel
theorem dX9_choose_81 : decode cX9_choose 81 = .ok (.aload_n 0, 1) := by decide +kernel
theorem dX9_choose_82 : decode cX9_choose 82 = .ok (.iload 4, 2) := by decide +kernel
theorem dX9_choose_84 : decode cX9_choose 84 = .ok (.invokevirtual 108, 3) := by decide +kernel
theorem dX9_choose_87 : decode cX9_choose 87 = .ok (.if_icmp .ge 8, 3) := by decide +kernel
theorem dX9_choose_90 : decode cX9_choose 90 = .ok (.iload 7, 2) := by decide +kernel
theorem dX9_choose_92 : decode cX9_choose 92 = .ok (.goto 5, 3) := by decide +kernel
theorem dX9_choose_95 : decode cX9_choose 95 = .ok (.iload 4, 2) := by decide +kernel
theorem dX9_choose_97 : decode cX9_choose 97 = .ok (.istore 4, 2) := by decide +kernel
theorem dX9_choose_99 : decode cX9_choose 99 = .ok (.iload 9, 2) := by decide +kernel
theorem dX9_choose_101 : decode cX9_choose 101 = .ok (.ifCond .ne 37, 3) := by decide +kernel
theorem dX9_choose_104 : decode cX9_choose 104 = .ok (.aload_n 0, 1) := by decide +kernel
theorem dX9_choose_105 : decode cX9_choose 105 = .ok (.iload_n 2, 1) := by decide +kernel
theorem dX9_choose_106 : decode cX9_choose 106 = .ok (.iload 8, 2) := by decide +kernel
theorem dX9_choose_108 : decode cX9_choose 108 = .ok (.iadd, 1) := by decide +kernel
theorem dX9_choose_109 : decode cX9_choose 109 = .ok (.invokevirtual 117, 3) := by decide +kernel
theorem dX9_choose_112 : decode cX9_choose 112 = .ok (.ifCond .eq 26, 3) := by decide +kernel
theorem dX9_choose_115 : decode cX9_choose 115 = .ok (.iload 5, 2) := by decide +kernel
theorem dX9_choose_117 : decode cX9_choose 117 = .ok (.bipush (-4), 2) := by decide +kernel
theorem dX9_choose_119 : decode cX9_choose 119 = .ok (.if_icmp .eq 14, 3) := by decide +kernel
theorem dX9_choose_122 : decode cX9_choose 122 = .ok (.iload 8, 2) := by decide +kernel
theorem dX9_choose_124 : decode cX9_choose 124 = .ok (.aload_n 0, 1) := by decide +kernel
theorem dX9_choose_125 : decode cX9_choose 125 = .ok (.iload 5, 2) := by decide +kernel
theorem dX9_choose_127 : decode cX9_choose 127 = .ok (.invokevirtual 108, 3) := by decide +kernel
theorem dX9_choose_130 : decode cX9_choose 130 = .ok (.if_icmp .le 8, 3) := by decide +kernel
theorem dX9_choose_133 : decode cX9_choose 133 = .ok (.iload 7, 2) := by decide +kernel
theorem dX9_choose_135 : decode cX9_choose 135 = .ok (.goto 5, 3) := by decide +kernel
theorem dX9_choose_138 : decode cX9_choose 138 = .ok (.iload 5, 2) := by decide +kernel
theorem dX9_choose_140 : decode cX9_choose 140 = .ok (.istore 5, 2) := by decide +kernel
theorem dX9_choose_142 : decode cX9_choose 142 = .ok (.iload 6, 2) := by decide +kernel
theorem dX9_choose_144 : decode cX9_choose 144 = .ok (.bipush (-4), 2) := by decide +kernel
theorem dX9_choose_146 : decode cX9_choose 146 = .ok (.if_icmp .eq 14, 3) := by decide +kernel
theorem dX9_choose_149 : decode cX9_choose 149 = .ok (.iload 8, 2) := by decide +kernel
theorem dX9_choose_151 : decode cX9_choose 151 = .ok (.aload_n 0, 1) := by decide +kernel
theorem dX9_choose_152 : decode cX9_choose 152 = .ok (.iload 6, 2) := by decide +kernel
theorem dX9_choose_154 : decode cX9_choose 154 = .ok (.invokevirtual 108, 3) := by decide +kernel
theorem dX9_choose_157 : decode cX9_choose 157 = .ok (.if_icmp .le 8, 3) := by decide +kernel
theorem dX9_choose_160 : decode cX9_choose 160 = .ok (.iload 7, 2) := by decide +kernel
theorem dX9_choose_162 : decode cX9_choose 162 = .ok (.goto 5, 3) := by decide +kernel
theorem dX9_choose_165 : decode cX9_choose 165 = .ok (.iload 6, 2) := by decide +kernel
theorem dX9_choose_167 : decode cX9_choose 167 = .ok (.istore 6, 2) := by decide +kernel
theorem dX9_choose_169 : decode cX9_choose 169 = .ok (.iinc 7 1, 3) := by decide +kernel
theorem dX9_choose_172 : decode cX9_choose 172 = .ok (.goto (-157), 3) := by decide +kernel
theorem dX9_choose_175 : decode cX9_choose 175 = .ok (.aload_n 0, 1) := by decide +kernel
theorem dX9_choose_176 : decode cX9_choose 176 = .ok (.iload 4, 2) := by decide +kernel
theorem dX9_choose_178 : decode cX9_choose 178 = .ok (.bipush (-4), 2) := by decide +kernel
theorem dX9_choose_180 : decode cX9_choose 180 = .ok (.if_icmp .eq 8, 3) := by decide +kernel
theorem dX9_choose_183 : decode cX9_choose 183 = .ok (.iload 4, 2) := by decide +kernel
theorem dX9_choose_185 : decode cX9_choose 185 = .ok (.goto 17, 3) := by decide +kernel
theorem dX9_choose_188 : decode cX9_choose 188 = .ok (.iload 5, 2) := by decide +kernel
theorem dX9_choose_190 : decode cX9_choose 190 = .ok (.bipush (-4), 2) := by decide +kernel
theorem dX9_choose_192 : decode cX9_choose 192 = .ok (.if_icmp .eq 8, 3) := by decide +kernel
theorem dX9_choose_195 : decode cX9_choose 195 = .ok (.iload 5, 2) := by decide +kernel
theorem dX9_choose_197 : decode cX9_choose 197 = .ok (.goto 5, 3) := by decide +kernel
theorem dX9_choose_200 : decode cX9_choose 200 = .ok (.iload 6, 2) := by decide +kernel
theorem dX9_choose_202 : decode cX9_choose 202 = .ok (.putfield 120, 3) := by decide +kernel
theorem dX9_choose_205 : decode cX9_choose 205 = .ok (.aload_n 0, 1) := by decide +kernel
theorem dX9_choose_206 : decode cX9_choose 206 = .ok (.getfield 120, 3) := by decide +kernel
theorem dX9_choose_209 : decode cX9_choose 209 = .ok (.bipush (-4), 2) := by decide +kernel
theorem dX9_choose_211 : decode cX9_choose 211 = .ok (.if_icmp .ne 5, 3) := by decide +kernel
theorem dX9_choose_214 : decode cX9_choose 214 = .ok (.iconst 0, 1) := by decide +kernel
theorem dX9_choose_215 : decode cX9_choose 215 = .ok (.ireturn, 1) := by decide +kernel
theorem dX9_choose_216 : decode cX9_choose 216 = .ok (.aload_n 0, 1) := by decide +kernel
theorem dX9_choose_217 : decode cX9_choose 217 = .ok (.iload 4, 2) := by decide +kernel
theorem dX9_choose_219 : decode cX9_choose 219 = .ok (.bipush (-4), 2) := by decide +kernel
theorem dX9_choose_221 : decode cX9_choose 221 = .ok (.if_icmp .eq 9, 3) := by decide +kernel
theorem dX9_choose_224 : decode cX9_choose 224 = .ok (.iload_n 3, 1) := by decide +kernel
theorem dX9_choose_225 : decode cX9_choose 225 = .ok (.iload_n 2, 1) := by decide +kernel
theorem dX9_choose_226 : decode cX9_choose 226 = .ok (.isub, 1) := by decide +kernel
theorem dX9_choose_227 : decode cX9_choose 227 = .ok (.goto 11, 3) := by decide +kernel
theorem dX9_choose_230 : decode cX9_choose 230 = .ok (.aload_n 0, 1) := by decide +kernel
theorem dX9_choose_231 : decode cX9_choose 231 = .ok (.aload_n 0, 1) := by decide +kernel
theorem dX9_choose_232 : decode cX9_choose 232 = .ok (.getfield 120, 3) := by decide +kernel
theorem dX9_choose_235 : decode cX9_choose 235 = .ok (.invokevirtual 108, 3) := by decide +kernel
theorem dX9_choose_238 : decode cX9_choose 238 = .ok (.putfield 123, 3) := by decide +kernel
theorem dX9_choose_241 : decode cX9_choose 241 = .ok (.iload 4, 2) := by decide +kernel
theorem dX9_choose_243 : decode cX9_choose 243 = .ok (.bipush (-4), 2) := by decide +kernel
theorem dX9_choose_245 : decode cX9_choose 245 = .ok (.if_icmp .ne 61, 3) := by decide +kernel
theorem dX9_choose_248 : decode cX9_choose 248 = .ok (.iload 5, 2) := by decide +kernel
theorem dX9_choose_250 : decode cX9_choose 250 = .ok (.bipush (-4), 2) := by decide +kernel
theorem dX9_choose_252 : decode cX9_choose 252 = .ok (.if_icmp .ne 54, 3) := by decide +kernel
theorem dX9_choose_255 : decode cX9_choose 255 = .ok (.aload_n 0, 1) := by decide +kernel
theorem dX9_choose_256 : decode cX9_choose 256 = .ok (.getfield 123, 3) := by decide +kernel
theorem dX9_choose_259 : decode cX9_choose 259 = .ok (.ifCond .le 47, 3) := by decide +kernel
theorem dX9_choose_262 : decode cX9_choose 262 = .ok (.aload_n 0, 1) := by decide +kernel
theorem dX9_choose_263 : decode cX9_choose 263 = .ok (.dup, 1) := by decide +kernel
theorem dX9_choose_264 : decode cX9_choose 264 = .ok (.getfield 123, 3) := by decide +kernel
theorem dX9_choose_267 : decode cX9_choose 267 = .ok (.iconst 1, 1) := by decide +kernel
theorem dX9_choose_268 : decode cX9_choose 268 = .ok (.isub, 1) := by decide +kernel
theorem dX9_choose_269 : decode cX9_choose 269 = .ok (.putfield 123, 3) := by decide +kernel
theorem dX9_choose_272 : decode cX9_choose 272 = .ok (.aload_n 0, 1) := by decide +kernel
theorem dX9_choose_273 : decode cX9_choose 273 = .ok (.getfield 123, 3) := by decide +kernel
theorem dX9_choose_276 : decode cX9_choose 276 = .ok (.ifCond .le 23, 3) := by decide +kernel
theorem dX9_choose_279 : decode cX9_choose 279 = .ok (.aload_n 0, 1) := by decide +kernel
theorem dX9_choose_280 : decode cX9_choose 280 = .ok (.iload_n 2, 1) := by decide +kernel
theorem dX9_choose_281 : decode cX9_choose 281 = .ok (.aload_n 0, 1) := by decide +kernel
theorem dX9_choose_282 : decode cX9_choose 282 = .ok (.getfield 123, 3) := by decide +kernel
theorem dX9_choose_285 : decode cX9_choose 285 = .ok (.iadd, 1) := by decide +kernel
theorem dX9_choose_286 : decode cX9_choose 286 = .ok (.invokevirtual 117, 3) := by decide +kernel
theorem dX9_choose_289 : decode cX9_choose 289 = .ok (.ifCond .eq 10, 3) := by decide +kernel
theorem dX9_choose_292 : decode cX9_choose 292 = .ok (.aload_n 0, 1) := by decide +kernel
theorem dX9_choose_293 : decode cX9_choose 293 = .ok (.getfield 120, 3) := by decide +kernel
theorem dX9_choose_296 : decode cX9_choose 296 = .ok (.goto 5, 3) := by decide +kernel
theorem dX9_choose_299 : decode cX9_choose 299 = .ok (.bipush (-4), 2) := by decide +kernel
theorem dX9_choose_301 : decode cX9_choose 301 = .ok (.istore 5, 2) := by decide +kernel
theorem dX9_choose_303 : decode cX9_choose 303 = .ok (.goto (-62), 3) := by decide +kernel
theorem dX9_choose_306 : decode cX9_choose 306 = .ok (.aload_n 0, 1) := by decide +kernel
theorem dX9_choose_307 : decode cX9_choose 307 = .ok (.getfield 123, 3) := by decide +kernel
theorem dX9_choose_310 : decode cX9_choose 310 = .ok (.ifCond .le 7, 3) := by decide +kernel
theorem dX9_choose_313 : decode cX9_choose 313 = .ok (.iconst 1, 1) := by decide +kernel
theorem dX9_choose_314 : decode cX9_choose 314 = .ok (.goto 4, 3) := by decide +kernel
theorem dX9_choose_317 : decode cX9_choose 317 = .ok (.iconst 0, 1) := by decide +kernel
theorem dX9_choose_318 : decode cX9_choose 318 = .ok (.ireturn, 1) := by decide +kernel
set_option maxRecDepth 20000 in
theorem ggX9_fill_X9_room : GoodIn wsX9_fill wsX9_room := goodIn_r _ [8, 9, 10, 11, 12, 7, 13, 14, 15, 16, 17, 1, 18, 19, 20, 21, 54, 55, 56, 57, 58, 59, 60, 61, 62, 63, 64, 65, 66, 67, 68, 69, 70, 71] (by decide +kernel) (by decide +kernel)
set_option maxRecDepth 20000 in
theorem gX9_fill_X9_room : GoodIn wsX9_fill (wsV RX9 126 RX9 yX9_room wsX9_room) := goodIn_app (goodIn_of _ (by decide +kernel)) ggX9_fill_X9_room
set_option maxRecDepth 20000 in
theorem ggX9_fill_X9_findJoints : GoodIn wsX9_fill wsX9_findJoints := goodIn_r _ [25, 26, 27, 28, 29, 30, 7, 31, 1, 32, 33, 34, 35, 54, 55, 56, 57, 58, 59, 60, 61, 62, 63, 64, 65, 66, 67, 68, 69, 70, 71] (by decide +kernel) (by decide +kernel)
set_option maxRecDepth 20000 in
theorem gX9_fill_X9_findJoints : GoodIn wsX9_fill (wsV RX9 129 RX9 yX9_findJoints wsX9_findJoints) := goodIn_app (goodIn_of _ (by decide +kernel)) ggX9_fill_X9_findJoints
set_option maxRecDepth 20000 in
theorem ggX9_fill_X9_choose : GoodIn wsX9_fill wsX9_choose := goodIn_r _ [39, 40, 1, 2, 3, 41, 42, 43, 7, 44, 45, 46, 47, 48, 49, 50, 51, 52, 53, 26, 27, 9, 54, 55, 56, 57, 58, 59, 60, 61, 62, 63, 64, 65, 66, 67, 68, 69, 70, 71] (by decide +kernel) (by decide +kernel)
set_option maxRecDepth 20000 in
theorem gX9_fill_X9_choose : GoodIn wsX9_fill (wsV RX9 133 RX9 yX9_choose wsX9_choose) := goodIn_app (goodIn_of _ (by decide +kernel)) ggX9_fill_X9_choose
theorem dX9_fill_0 : decode cX9_fill 0 = .ok (.aload_n 0, 1) := by decide +kernel
theorem dX9_fill_1 : decode cX9_fill 1 = .ok (.getfield 25, 3) := by decide +kernel
theorem dX9_fill_4 : decode cX9_fill 4 = .ok (.bipush 8, 2) := by decide +kernel
theorem dX9_fill_6 : decode cX9_fill 6 = .ok (.iaload, 1) := by decide +kernel
theorem dX9_fill_7 : decode cX9_fill 7 = .ok (.istore_n 2, 1) := by decide +kernel
theorem dX9_fill_8 : decode cX9_fill 8 = .ok (.aload_n 0, 1) := by decide +kernel
theorem dX9_fill_9 : decode cX9_fill 9 = .ok (.iload_n 2, 1) := by decide +kernel
theorem dX9_fill_10 : decode cX9_fill 10 = .ok (.invokevirtual 126, 3) := by decide +kernel
theorem dX9_fill_13 : decode cX9_fill 13 = .ok (.istore_n 3, 1) := by decide +kernel
theorem dX9_fill_14 : decode cX9_fill 14 = .ok (.bipush 9, 2) := by decide +kernel
theorem dX9_fill_16 : decode cX9_fill 16 = .ok (.bipush 62, 2) := by decide +kernel
theorem dX9_fill_18 : decode cX9_fill 18 = .ok (.iload_n 2, 1) := by decide +kernel
theorem dX9_fill_19 : decode cX9_fill 19 = .ok (.imul, 1) := by decide +kernel
theorem dX9_fill_20 : decode cX9_fill 20 = .ok (.iadd, 1) := by decide +kernel
theorem dX9_fill_21 : decode cX9_fill 21 = .ok (.istore 4, 2) := by decide +kernel
theorem dX9_fill_23 : decode cX9_fill 23 = .ok (.aload_n 0, 1) := by decide +kernel
theorem dX9_fill_24 : decode cX9_fill 24 = .ok (.getfield 25, 3) := by decide +kernel
theorem dX9_fill_27 : decode cX9_fill 27 = .ok (.iload 4, 2) := by decide +kernel
theorem dX9_fill_29 : decode cX9_fill 29 = .ok (.iload_n 1, 1) := by decide +kernel
theorem dX9_fill_30 : decode cX9_fill 30 = .ok (.iastore, 1) := by decide +kernel
theorem dX9_fill_31 : decode cX9_fill 31 = .ok (.aload_n 0, 1) := by decide +kernel
theorem dX9_fill_32 : decode cX9_fill 32 = .ok (.getfield 25, 3) := by decide +kernel
theorem dX9_fill_35 : decode cX9_fill 35 = .ok (.iload 4, 2) := by decide +kernel
theorem dX9_fill_37 : decode cX9_fill 37 = .ok (.iconst 1, 1) := by decide +kernel
theorem dX9_fill_38 : decode cX9_fill 38 = .ok (.iadd, 1) := by decide +kernel
theorem dX9_fill_39 : decode cX9_fill 39 = .ok (.iconst 0, 1) := by decide +kernel
theorem dX9_fill_40 : decode cX9_fill 40 = .ok (.iastore, 1) := by decide +kernel
theorem dX9_fill_41 : decode cX9_fill 41 = .ok (.aload_n 0, 1) := by decide +kernel
theorem dX9_fill_42 : decode cX9_fill 42 = .ok (.iload_n 2, 1) := by decide +kernel
theorem dX9_fill_43 : decode cX9_fill 43 = .ok (.iconst 1, 1) := by decide +kernel
theorem dX9_fill_44 : decode cX9_fill 44 = .ok (.isub, 1) := by decide +kernel
theorem dX9_fill_45 : decode cX9_fill 45 = .ok (.invokevirtual 129, 3) := by decide +kernel
theorem dX9_fill_48 : decode cX9_fill 48 = .ok (.iconst 0, 1) := by decide +kernel
theorem dX9_fill_49 : decode cX9_fill 49 = .ok (.istore 5, 2) := by decide +kernel
theorem dX9_fill_51 : decode cX9_fill 51 = .ok (.iload 5, 2) := by decide +kernel
theorem dX9_fill_53 : decode cX9_fill 53 = .ok (.iload_n 3, 1) := by decide +kernel
theorem dX9_fill_54 : decode cX9_fill 54 = .ok (.if_icmp .ge 99, 3) := by decide +kernel
theorem dX9_fill_57 : decode cX9_fill 57 = .ok (.aload_n 0, 1) := by decide +kernel
theorem dX9_fill_58 : decode cX9_fill 58 = .ok (.getfield 25, 3) := by decide +kernel
theorem dX9_fill_61 : decode cX9_fill 61 = .ok (.iload 4, 2) := by decide +kernel
theorem dX9_fill_63 : decode cX9_fill 63 = .ok (.iconst 1, 1) := by decide +kernel
theorem dX9_fill_64 : decode cX9_fill 64 = .ok (.iadd, 1) := by decide +kernel
theorem dX9_fill_65 : decode cX9_fill 65 = .ok (.iaload, 1) := by decide +kernel
theorem dX9_fill_66 : decode cX9_fill 66 = .ok (.bipush 60, 2) := by decide +kernel
theorem dX9_fill_68 : decode cX9_fill 68 = .ok (.if_icmp .eq 14, 3) := by decide +kernel
theorem dX9_fill_71 : decode cX9_fill 71 = .ok (.aload_n 0, 1) := by decide +kernel
theorem dX9_fill_72 : decode cX9_fill 72 = .ok (.iload_n 1, 1) := by decide +kernel
theorem dX9_fill_73 : decode cX9_fill 73 = .ok (.iload 5, 2) := by decide +kernel
theorem dX9_fill_75 : decode cX9_fill 75 = .ok (.iload_n 3, 1) := by decide +kernel
theorem dX9_fill_76 : decode cX9_fill 76 = .ok (.invokevirtual 133, 3) := by decide +kernel
theorem dX9_fill_79 : decode cX9_fill 79 = .ok (.ifCond .ne 5, 3) := by decide +kernel
theorem dX9_fill_82 : decode cX9_fill 82 = .ok (.iconst 0, 1) := by decide +kernel
theorem dX9_fill_83 : decode cX9_fill 83 = .ok (.ireturn, 1) := by decide +kernel
theorem dX9_fill_84 : decode cX9_fill 84 = .ok (.aload_n 0, 1) := by decide +kernel
theorem dX9_fill_85 : decode cX9_fill 85 = .ok (.getfield 25, 3) := by decide +kernel
theorem dX9_fill_88 : decode cX9_fill 88 = .ok (.aload_n 0, 1) := by decide +kernel
theorem dX9_fill_89 : decode cX9_fill 89 = .ok (.getfield 120, 3) := by decide +kernel
theorem dX9_fill_92 : decode cX9_fill 92 = .ok (.dup2, 1) := by decide +kernel
theorem dX9_fill_93 : decode cX9_fill 93 = .ok (.iaload, 1) := by decide +kernel
theorem dX9_fill_94 : decode cX9_fill 94 = .ok (.iconst 1, 1) := by decide +kernel
theorem dX9_fill_95 : decode cX9_fill 95 = .ok (.isub, 1) := by decide +kernel
theorem dX9_fill_96 : decode cX9_fill 96 = .ok (.iastore, 1) := by decide +kernel
theorem dX9_fill_97 : decode cX9_fill 97 = .ok (.aload_n 0, 1) := by decide +kernel
theorem dX9_fill_98 : decode cX9_fill 98 = .ok (.getfield 25, 3) := by decide +kernel
theorem dX9_fill_101 : decode cX9_fill 101 = .ok (.iload 4, 2) := by decide +kernel
theorem dX9_fill_103 : decode cX9_fill 103 = .ok (.iconst 2, 1) := by decide +kernel
theorem dX9_fill_104 : decode cX9_fill 104 = .ok (.iadd, 1) := by decide +kernel
theorem dX9_fill_105 : decode cX9_fill 105 = .ok (.aload_n 0, 1) := by decide +kernel
theorem dX9_fill_106 : decode cX9_fill 106 = .ok (.getfield 25, 3) := by decide +kernel
theorem dX9_fill_109 : decode cX9_fill 109 = .ok (.iload 4, 2) := by decide +kernel
theorem dX9_fill_111 : decode cX9_fill 111 = .ok (.iconst 1, 1) := by decide +kernel
theorem dX9_fill_112 : decode cX9_fill 112 = .ok (.iadd, 1) := by decide +kernel
theorem dX9_fill_113 : decode cX9_fill 113 = .ok (.iaload, 1) := by decide +kernel
theorem dX9_fill_114 : decode cX9_fill 114 = .ok (.iadd, 1) := by decide +kernel
theorem dX9_fill_115 : decode cX9_fill 115 = .ok (.bipush 64, 2) := by decide +kernel
theorem dX9_fill_117 : decode cX9_fill 117 = .ok (.aload_n 0, 1) := by decide +kernel
theorem dX9_fill_118 : decode cX9_fill 118 = .ok (.getfield 120, 3) := by decide +kernel
theorem dX9_fill_121 : decode cX9_fill 121 = .ok (.imul, 1) := by decide +kernel
theorem dX9_fill_122 : decode cX9_fill 122 = .ok (.aload_n 0, 1) := by decide +kernel
theorem dX9_fill_123 : decode cX9_fill 123 = .ok (.getfield 123, 3) := by decide +kernel
theorem dX9_fill_126 : decode cX9_fill 126 = .ok (.iadd, 1) := by decide +kernel
theorem dX9_fill_127 : decode cX9_fill 127 = .ok (.iastore, 1) := by decide +kernel
theorem dX9_fill_128 : decode cX9_fill 128 = .ok (.aload_n 0, 1) := by decide +kernel
theorem dX9_fill_129 : decode cX9_fill 129 = .ok (.getfield 25, 3) := by decide +kernel
theorem dX9_fill_132 : decode cX9_fill 132 = .ok (.iload 4, 2) := by decide +kernel
theorem dX9_fill_134 : decode cX9_fill 134 = .ok (.iconst 1, 1) := by decide +kernel
theorem dX9_fill_135 : decode cX9_fill 135 = .ok (.iadd, 1) := by decide +kernel
theorem dX9_fill_136 : decode cX9_fill 136 = .ok (.dup2, 1) := by decide +kernel
theorem dX9_fill_137 : decode cX9_fill 137 = .ok (.iaload, 1) := by decide +kernel
theorem dX9_fill_138 : decode cX9_fill 138 = .ok (.iconst 1, 1) := by decide +kernel
theorem dX9_fill_139 : decode cX9_fill 139 = .ok (.iadd, 1) := by decide +kernel
theorem dX9_fill_140 : decode cX9_fill 140 = .ok (.iastore, 1) := by decide +kernel
theorem dX9_fill_141 : decode cX9_fill 141 = .ok (.iload 5, 2) := by decide +kernel
theorem dX9_fill_143 : decode cX9_fill 143 = .ok (.aload_n 0, 1) := by decide +kernel
theorem dX9_fill_144 : decode cX9_fill 144 = .ok (.getfield 123, 3) := by decide +kernel
theorem dX9_fill_147 : decode cX9_fill 147 = .ok (.iadd, 1) := by decide +kernel
theorem dX9_fill_148 : decode cX9_fill 148 = .ok (.istore 5, 2) := by decide +kernel
theorem dX9_fill_150 : decode cX9_fill 150 = .ok (.goto (-99), 3) := by decide +kernel
theorem dX9_fill_153 : decode cX9_fill 153 = .ok (.iconst 1, 1) := by decide +kernel
theorem dX9_fill_154 : decode cX9_fill 154 = .ok (.ireturn, 1) := by decide +kernel
set_option maxRecDepth 20000 in
theorem ggX9_giveBack_X9_slateCount : GoodIn wsX9_giveBack wsX9_slateCount := goodIn_r _ [6, 1, 11, 12, 13, 14, 15, 16, 17, 18, 19, 20, 21, 22, 23, 24, 25, 26, 27, 28] (by decide +kernel) (by decide +kernel)
set_option maxRecDepth 20000 in
theorem gX9_giveBack_X9_slateCount : GoodIn wsX9_giveBack (wsV RX9 101 RX9 yX9_slateCount wsX9_slateCount) := goodIn_app (goodIn_of _ (by decide +kernel)) ggX9_giveBack_X9_slateCount
set_option maxRecDepth 20000 in
theorem ggX9_giveBack_X9_slateOf : GoodIn wsX9_giveBack wsX9_slateOf := goodIn_r _ [10, 1, 11, 12, 13, 14, 15, 16, 17, 18, 19, 20, 21, 22, 23, 24, 25, 26, 27, 28] (by decide +kernel) (by decide +kernel)
set_option maxRecDepth 20000 in
theorem gX9_giveBack_X9_slateOf : GoodIn wsX9_giveBack (wsV RX9 104 RX9 yX9_slateOf wsX9_slateOf) := goodIn_app (goodIn_of _ (by decide +kernel)) ggX9_giveBack_X9_slateOf
theorem dX9_giveBack_0 : decode cX9_giveBack 0 = .ok (.iconst 0, 1) := by decide +kernel
theorem dX9_giveBack_1 : decode cX9_giveBack 1 = .ok (.istore_n 2, 1) := by decide +kernel
theorem dX9_giveBack_2 : decode cX9_giveBack 2 = .ok (.iload_n 2, 1) := by decide +kernel
theorem dX9_giveBack_3 : decode cX9_giveBack 3 = .ok (.aload_n 0, 1) := by decide +kernel
theorem dX9_giveBack_4 : decode cX9_giveBack 4 = .ok (.iload_n 1, 1) := by decide +kernel
theorem dX9_giveBack_5 : decode cX9_giveBack 5 = .ok (.invokevirtual 101, 3) := by decide +kernel
theorem dX9_giveBack_8 : decode cX9_giveBack 8 = .ok (.if_icmp .ge 27, 3) := by decide +kernel
theorem dX9_giveBack_11 : decode cX9_giveBack 11 = .ok (.aload_n 0, 1) := by decide +kernel
theorem dX9_giveBack_12 : decode cX9_giveBack 12 = .ok (.getfield 25, 3) := by decide +kernel
theorem dX9_giveBack_15 : decode cX9_giveBack 15 = .ok (.aload_n 0, 1) := by decide +kernel
theorem dX9_giveBack_16 : decode cX9_giveBack 16 = .ok (.iload_n 1, 1) := by decide +kernel
theorem dX9_giveBack_17 : decode cX9_giveBack 17 = .ok (.iload_n 2, 1) := by decide +kernel
theorem dX9_giveBack_18 : decode cX9_giveBack 18 = .ok (.invokevirtual 104, 3) := by decide +kernel
theorem dX9_giveBack_21 : decode cX9_giveBack 21 = .ok (.bipush 64, 2) := by decide +kernel
theorem dX9_giveBack_23 : decode cX9_giveBack 23 = .ok (.idiv, 1) := by decide +kernel
theorem dX9_giveBack_24 : decode cX9_giveBack 24 = .ok (.dup2, 1) := by decide +kernel
theorem dX9_giveBack_25 : decode cX9_giveBack 25 = .ok (.iaload, 1) := by decide +kernel
theorem dX9_giveBack_26 : decode cX9_giveBack 26 = .ok (.iconst 1, 1) := by decide +kernel
theorem dX9_giveBack_27 : decode cX9_giveBack 27 = .ok (.iadd, 1) := by decide +kernel
theorem dX9_giveBack_28 : decode cX9_giveBack 28 = .ok (.iastore, 1) := by decide +kernel
theorem dX9_giveBack_29 : decode cX9_giveBack 29 = .ok (.iinc 2 1, 3) := by decide +kernel
theorem dX9_giveBack_32 : decode cX9_giveBack 32 = .ok (.goto (-30), 3) := by decide +kernel
theorem dX9_giveBack_35 : decode cX9_giveBack 35 = .ok (.return_, 1) := by decide +kernel
set_option maxRecDepth 20000 in
theorem ggX9_mayBegin_X9_heapLength : GoodIn wsX9_mayBegin wsX9_heapLength := goodIn_r _ [7, 8, 26, 27, 28, 29, 30, 31, 32, 33, 34, 35, 36, 37, 38, 39, 40, 41, 42, 43] (by decide +kernel) (by decide +kernel)
set_option maxRecDepth 20000 in
theorem gX9_mayBegin_X9_heapLength : GoodIn wsX9_mayBegin (wsV RX9 114 RX9 yX9_heapLength wsX9_heapLength) := goodIn_app (goodIn_of _ (by decide +kernel)) ggX9_mayBegin_X9_heapLength
set_option maxRecDepth 20000 in
theorem ggX9_mayBegin_X9_isReady : GoodIn wsX9_mayBegin wsX9_isReady := goodIn_r _ [12, 2, 13, 14, 15, 16, 6, 17, 18, 19, 20, 21, 22, 23, 24, 25, 26, 27, 28, 29, 30, 31, 32, 33, 34, 35, 36, 37, 38, 39, 40, 41, 42, 43] (by decide +kernel) (by decide +kernel)
set_option maxRecDepth 20000 in
theorem gX9_mayBegin_X9_isReady : GoodIn wsX9_mayBegin (wsV RX9 136 RX9 yX9_isReady wsX9_isReady) := goodIn_app (goodIn_of _ (by decide +kernel)) ggX9_mayBegin_X9_isReady
set_option maxRecDepth 20000 in
theorem ggX9_mayBegin_X9_courseLength : GoodIn wsX9_mayBegin wsX9_courseLength := goodIn_r _ [21, 2, 26, 27, 28, 29, 30, 31, 32, 33, 34, 35, 36, 37, 38, 39, 40, 41, 42, 43] (by decide +kernel) (by decide +kernel)
set_option maxRecDepth 20000 in
theorem gX9_mayBegin_X9_courseLength : GoodIn wsX9_mayBegin (wsV RX9 91 RX9 yX9_courseLength wsX9_courseLength) := goodIn_app (goodIn_of _ (by decide +kernel)) ggX9_mayBegin_X9_courseLength
theorem dX9_mayBegin_0 : decode cX9_mayBegin 0 = .ok (.iconst 0, 1) := by decide +kernel
theorem dX9_mayBegin_1 : decode cX9_mayBegin 1 = .ok (.istore_n 2, 1) := by decide +kernel
theorem dX9_mayBegin_2 : decode cX9_mayBegin 2 = .ok (.iconst 0, 1) := by decide +kernel
theorem dX9_mayBegin_3 : decode cX9_mayBegin 3 = .ok (.istore_n 3, 1) := by decide +kernel
theorem dX9_mayBegin_4 : decode cX9_mayBegin 4 = .ok (.iload_n 3, 1) := by decide +kernel
theorem dX9_mayBegin_5 : decode cX9_mayBegin 5 = .ok (.aload_n 0, 1) := by decide +kernel
theorem dX9_mayBegin_6 : decode cX9_mayBegin 6 = .ok (.getfield 54, 3) := by decide +kernel
theorem dX9_mayBegin_9 : decode cX9_mayBegin 9 = .ok (.if_icmp .ge 28, 3) := by decide +kernel
theorem dX9_mayBegin_12 : decode cX9_mayBegin 12 = .ok (.iload_n 2, 1) := by decide +kernel
theorem dX9_mayBegin_13 : decode cX9_mayBegin 13 = .ok (.ifCond .ne 12, 3) := by decide +kernel
theorem dX9_mayBegin_16 : decode cX9_mayBegin 16 = .ok (.aload_n 0, 1) := by decide +kernel
theorem dX9_mayBegin_17 : decode cX9_mayBegin 17 = .ok (.iload_n 3, 1) := by decide +kernel
theorem dX9_mayBegin_18 : decode cX9_mayBegin 18 = .ok (.invokevirtual 114, 3) := by decide +kernel
theorem dX9_mayBegin_21 : decode cX9_mayBegin 21 = .ok (.iload_n 1, 1) := by decide +kernel
theorem dX9_mayBegin_22 : decode cX9_mayBegin 22 = .ok (.if_icmp .ne 7, 3) := by decide +kernel
theorem dX9_mayBegin_25 : decode cX9_mayBegin 25 = .ok (.iconst 1, 1) := by decide +kernel
theorem dX9_mayBegin_26 : decode cX9_mayBegin 26 = .ok (.goto 4, 3) := by decide +kernel
theorem dX9_mayBegin_29 : decode cX9_mayBegin 29 = .ok (.iconst 0, 1) := by decide +kernel
theorem dX9_mayBegin_30 : decode cX9_mayBegin 30 = .ok (.istore_n 2, 1) := by decide +kernel
theorem dX9_mayBegin_31 : decode cX9_mayBegin 31 = .ok (.iinc 3 1, 3) := by decide +kernel
theorem dX9_mayBegin_34 : decode cX9_mayBegin 34 = .ok (.goto (-30), 3) := by decide +kernel
theorem dX9_mayBegin_37 : decode cX9_mayBegin 37 = .ok (.aload_n 0, 1) := by decide +kernel
theorem dX9_mayBegin_38 : decode cX9_mayBegin 38 = .ok (.getfield 25, 3) := by decide +kernel
theorem dX9_mayBegin_41 : decode cX9_mayBegin 41 = .ok (.bipush 8, 2) := by decide +kernel
theorem dX9_mayBegin_43 : decode cX9_mayBegin 43 = .ok (.iaload, 1) := by decide +kernel
theorem dX9_mayBegin_44 : decode cX9_mayBegin 44 = .ok (.istore_n 3, 1) := by decide +kernel
theorem dX9_mayBegin_45 : decode cX9_mayBegin 45 = .ok (.iload_n 2, 1) := by decide +kernel
theorem dX9_mayBegin_46 : decode cX9_mayBegin 46 = .ok (.ifCond .eq 35, 3) := by decide +kernel
theorem dX9_mayBegin_49 : decode cX9_mayBegin 49 = .ok (.iload_n 3, 1) := by decide +kernel
theorem dX9_mayBegin_50 : decode cX9_mayBegin 50 = .ok (.bipush 20, 2) := by decide +kernel
theorem dX9_mayBegin_52 : decode cX9_mayBegin 52 = .ok (.if_icmp .ge 29, 3) := by decide +kernel
theorem dX9_mayBegin_55 : decode cX9_mayBegin 55 = .ok (.aload_n 0, 1) := by decide +kernel
theorem dX9_mayBegin_56 : decode cX9_mayBegin 56 = .ok (.invokevirtual 136, 3) := by decide +kernel
theorem dX9_mayBegin_59 : decode cX9_mayBegin 59 = .ok (.ifCond .ne 22, 3) := by decide +kernel
theorem dX9_mayBegin_62 : decode cX9_mayBegin 62 = .ok (.iload_n 3, 1) := by decide +kernel
theorem dX9_mayBegin_63 : decode cX9_mayBegin 63 = .ok (.ifCond .eq 14, 3) := by decide +kernel
theorem dX9_mayBegin_66 : decode cX9_mayBegin 66 = .ok (.iload_n 1, 1) := by decide +kernel
theorem dX9_mayBegin_67 : decode cX9_mayBegin 67 = .ok (.aload_n 0, 1) := by decide +kernel
theorem dX9_mayBegin_68 : decode cX9_mayBegin 68 = .ok (.iload_n 3, 1) := by decide +kernel
theorem dX9_mayBegin_69 : decode cX9_mayBegin 69 = .ok (.iconst 1, 1) := by decide +kernel
theorem dX9_mayBegin_70 : decode cX9_mayBegin 70 = .ok (.isub, 1) := by decide +kernel
theorem dX9_mayBegin_71 : decode cX9_mayBegin 71 = .ok (.invokevirtual 91, 3) := by decide +kernel
theorem dX9_mayBegin_74 : decode cX9_mayBegin 74 = .ok (.if_icmp .gt 7, 3) := by decide +kernel
theorem dX9_mayBegin_77 : decode cX9_mayBegin 77 = .ok (.iconst 1, 1) := by decide +kernel
theorem dX9_mayBegin_78 : decode cX9_mayBegin 78 = .ok (.goto 4, 3) := by decide +kernel
theorem dX9_mayBegin_81 : decode cX9_mayBegin 81 = .ok (.iconst 0, 1) := by decide +kernel
theorem dX9_mayBegin_82 : decode cX9_mayBegin 82 = .ok (.ireturn, 1) := by decide +kernel
set_option maxRecDepth 20000 in
theorem ggX9_layCourse_X9_mayBegin : GoodIn wsX9_layCourse wsX9_mayBegin := goodIn_r _ [6, 7, 1, 8, 9, 10, 5, 11, 12, 13, 14, 15, 16, 17, 18, 19, 20, 21, 22, 23, 24, 25, 26, 27, 28, 29, 70, 71, 72, 73, 74, 75, 76, 77, 78, 79, 80, 81, 82, 83, 84, 85, 86, 87] (by decide +kernel) (by decide +kernel)
set_option maxRecDepth 20000 in
theorem gX9_layCourse_X9_mayBegin : GoodIn wsX9_layCourse (wsV RX9 139 RX9 yX9_mayBegin wsX9_mayBegin) := goodIn_app (goodIn_of _ (by decide +kernel)) ggX9_layCourse_X9_mayBegin
set_option maxRecDepth 20000 in
theorem ggX9_layCourse_X9_fill : GoodIn wsX9_layCourse wsX9_fill := goodIn_r _ [33, 1, 34, 35, 36, 37, 38, 5, 39, 17, 18, 19, 20, 21, 22, 23, 24, 25, 26, 27, 28, 29, 40, 41, 42, 43, 44, 45, 46, 47, 48, 49, 50, 51, 52, 53, 54, 55, 56, 57, 7, 8, 9, 10, 11, 12, 58, 59, 60, 61, 62, 63, 64, 65, 70, 71, 72, 73, 74, 75, 76, 77, 78, 79, 80, 81, 82, 83, 84, 85, 86, 87] (by decide +kernel) (by decide +kernel)
set_option maxRecDepth 20000 in
theorem gX9_layCourse_X9_fill : GoodIn wsX9_layCourse (wsV RX9 142 RX9 yX9_fill wsX9_fill) := goodIn_app (goodIn_of _ (by decide +kernel)) ggX9_layCourse_X9_fill
set_option maxRecDepth 20000 in
theorem ggX9_layCourse_X9_giveBack : GoodIn wsX9_layCourse wsX9_giveBack := goodIn_r _ [69, 1, 46, 47, 48, 5, 49, 50, 51, 52, 53, 70, 71, 72, 73, 74, 75, 76, 77, 78, 79, 80, 81, 82, 83, 84, 85, 86, 87] (by decide +kernel) (by decide +kernel)
set_option maxRecDepth 20000 in
theorem gX9_layCourse_X9_giveBack : GoodIn wsX9_layCourse (wsV RX9 145 RX9 yX9_giveBack wsX9_giveBack) := goodIn_app (goodIn_of _ (by decide +kernel)) ggX9_layCourse_X9_giveBack
theorem dX9_layCourse_0 : decode cX9_layCourse 0 = .ok (.aload_n 0, 1) := by decide +kernel
theorem dX9_layCourse_1 : decode cX9_layCourse 1 = .ok (.iload_n 1, 1) := by decide +kernel
theorem dX9_layCourse_2 : decode cX9_layCourse 2 = .ok (.invokevirtual 139, 3) := by decide +kernel
theorem dX9_layCourse_5 : decode cX9_layCourse 5 = .ok (.ifCond .ne 5, 3) := by decide +kernel
theorem dX9_layCourse_8 : decode cX9_layCourse 8 = .ok (.iconst 0, 1) := by decide +kernel
theorem dX9_layCourse_9 : decode cX9_layCourse 9 = .ok (.ireturn, 1) := by decide +kernel
theorem dX9_layCourse_10 : decode cX9_layCourse 10 = .ok (.aload_n 0, 1) := by decide +kernel
theorem dX9_layCourse_11 : decode cX9_layCourse 11 = .ok (.iload_n 1, 1) := by decide +kernel
theorem dX9_layCourse_12 : decode cX9_layCourse 12 = .ok (.invokevirtual 142, 3) := by decide +kernel
theorem dX9_layCourse_15 : decode cX9_layCourse 15 = .ok (.ifCond .ne 16, 3) := by decide +kernel
theorem dX9_layCourse_18 : decode cX9_layCourse 18 = .ok (.aload_n 0, 1) := by decide +kernel
theorem dX9_layCourse_19 : decode cX9_layCourse 19 = .ok (.aload_n 0, 1) := by decide +kernel
theorem dX9_layCourse_20 : decode cX9_layCourse 20 = .ok (.getfield 25, 3) := by decide +kernel
theorem dX9_layCourse_23 : decode cX9_layCourse 23 = .ok (.bipush 8, 2) := by decide +kernel
theorem dX9_layCourse_25 : decode cX9_layCourse 25 = .ok (.iaload, 1) := by decide +kernel
theorem dX9_layCourse_26 : decode cX9_layCourse 26 = .ok (.invokevirtual 145, 3) := by decide +kernel
theorem dX9_layCourse_29 : decode cX9_layCourse 29 = .ok (.iconst 0, 1) := by decide +kernel
theorem dX9_layCourse_30 : decode cX9_layCourse 30 = .ok (.ireturn, 1) := by decide +kernel
theorem dX9_layCourse_31 : decode cX9_layCourse 31 = .ok (.aload_n 0, 1) := by decide +kernel
theorem dX9_layCourse_32 : decode cX9_layCourse 32 = .ok (.getfield 25, 3) := by decide +kernel
theorem dX9_layCourse_35 : decode cX9_layCourse 35 = .ok (.bipush 8, 2) := by decide +kernel
theorem dX9_layCourse_37 : decode cX9_layCourse 37 = .ok (.dup2, 1) := by decide +kernel
theorem dX9_layCourse_38 : decode cX9_layCourse 38 = .ok (.iaload, 1) := by decide +kernel
theorem dX9_layCourse_39 : decode cX9_layCourse 39 = .ok (.iconst 1, 1) := by decide +kernel
theorem dX9_layCourse_40 : decode cX9_layCourse 40 = .ok (.iadd, 1) := by decide +kernel
theorem dX9_layCourse_41 : decode cX9_layCourse 41 = .ok (.iastore, 1) := by decide +kernel
theorem dX9_layCourse_42 : decode cX9_layCourse 42 = .ok (.iconst 1, 1) := by decide +kernel
theorem dX9_layCourse_43 : decode cX9_layCourse 43 = .ok (.ireturn, 1) := by decide +kernel
set_option maxRecDepth 20000 in
theorem ggX9_takeUp_X9_giveBack : GoodIn wsX9_takeUp wsX9_giveBack := goodIn_r _ [6, 1, 7, 8, 9, 5, 10, 11, 12, 13, 14, 15, 16, 17, 18, 19, 20, 21, 22, 23, 24, 25, 26, 27, 28, 29, 30, 31, 32] (by decide +kernel) (by decide +kernel)
set_option maxRecDepth 20000 in
theorem gX9_takeUp_X9_giveBack : GoodIn wsX9_takeUp (wsV RX9 145 RX9 yX9_giveBack wsX9_giveBack) := goodIn_app (goodIn_of _ (by decide +kernel)) ggX9_takeUp_X9_giveBack
theorem dX9_takeUp_0 : decode cX9_takeUp 0 = .ok (.aload_n 0, 1) := by decide +kernel
theorem dX9_takeUp_1 : decode cX9_takeUp 1 = .ok (.getfield 25, 3) := by decide +kernel
theorem dX9_takeUp_4 : decode cX9_takeUp 4 = .ok (.bipush 8, 2) := by decide +kernel
theorem dX9_takeUp_6 : decode cX9_takeUp 6 = .ok (.dup2, 1) := by decide +kernel
theorem dX9_takeUp_7 : decode cX9_takeUp 7 = .ok (.iaload, 1) := by decide +kernel
theorem dX9_takeUp_8 : decode cX9_takeUp 8 = .ok (.iconst 1, 1) := by decide +kernel
theorem dX9_takeUp_9 : decode cX9_takeUp 9 = .ok (.isub, 1) := by decide +kernel
theorem dX9_takeUp_10 : decode cX9_takeUp 10 = .ok (.iastore, 1) := by decide +kernel
theorem dX9_takeUp_11 : decode cX9_takeUp 11 = .ok (.aload_n 0, 1) := by decide +kernel
theorem dX9_takeUp_12 : decode cX9_takeUp 12 = .ok (.aload_n 0, 1) := by decide +kernel
theorem dX9_takeUp_13 : decode cX9_takeUp 13 = .ok (.getfield 25, 3) := by decide +kernel
theorem dX9_takeUp_16 : decode cX9_takeUp 16 = .ok (.bipush 8, 2) := by decide +kernel
theorem dX9_takeUp_18 : decode cX9_takeUp 18 = .ok (.iaload, 1) := by decide +kernel
theorem dX9_takeUp_19 : decode cX9_takeUp 19 = .ok (.invokevirtual 145, 3) := by decide +kernel
theorem dX9_takeUp_22 : decode cX9_takeUp 22 = .ok (.return_, 1) := by decide +kernel
set_option maxRecDepth 20000 in
theorem ggX9_save_X9_copyState : GoodIn wsX9_save wsX9_copyState := goodIn_r _ [7] (by decide +kernel) (by decide +kernel)
set_option maxRecDepth 20000 in
theorem gX9_save_X9_copyState : GoodIn wsX9_save (va_wsS RX9 148 yX9_copyState wsX9_copyState) := goodIn_app (goodIn_of _ (by decide +kernel)) ggX9_save_X9_copyState
theorem dX9_save_0 : decode cX9_save 0 = .ok (.aload_n 0, 1) := by decide +kernel
theorem dX9_save_1 : decode cX9_save 1 = .ok (.getfield 57, 3) := by decide +kernel
theorem dX9_save_4 : decode cX9_save 4 = .ok (.bipush 6, 2) := by decide +kernel
theorem dX9_save_6 : decode cX9_save 6 = .ok (.if_icmp .ne 44, 3) := by decide +kernel
theorem dX9_save_9 : decode cX9_save 9 = .ok (.iconst 0, 1) := by decide +kernel
theorem dX9_save_10 : decode cX9_save 10 = .ok (.istore_n 1, 1) := by decide +kernel
theorem dX9_save_11 : decode cX9_save 11 = .ok (.iload_n 1, 1) := by decide +kernel
theorem dX9_save_12 : decode cX9_save 12 = .ok (.sipush 6245, 3) := by decide +kernel
theorem dX9_save_15 : decode cX9_save 15 = .ok (.if_icmp .ge 25, 3) := by decide +kernel
theorem dX9_save_18 : decode cX9_save 18 = .ok (.aload_n 0, 1) := by decide +kernel
theorem dX9_save_19 : decode cX9_save 19 = .ok (.getfield 31, 3) := by decide +kernel
theorem dX9_save_22 : decode cX9_save 22 = .ok (.iload_n 1, 1) := by decide +kernel
theorem dX9_save_23 : decode cX9_save 23 = .ok (.aload_n 0, 1) := by decide +kernel
theorem dX9_save_24 : decode cX9_save 24 = .ok (.getfield 31, 3) := by decide +kernel
theorem dX9_save_27 : decode cX9_save 27 = .ok (.iload_n 1, 1) := by decide +kernel
theorem dX9_save_28 : decode cX9_save 28 = .ok (.sipush 1249, 3) := by decide +kernel
theorem dX9_save_31 : decode cX9_save 31 = .ok (.iadd, 1) := by decide +kernel
theorem dX9_save_32 : decode cX9_save 32 = .ok (.iaload, 1) := by decide +kernel
theorem dX9_save_33 : decode cX9_save 33 = .ok (.iastore, 1) := by decide +kernel
theorem dX9_save_34 : decode cX9_save 34 = .ok (.iinc 1 1, 3) := by decide +kernel
theorem dX9_save_37 : decode cX9_save 37 = .ok (.goto (-26), 3) := by decide +kernel
theorem dX9_save_40 : decode cX9_save 40 = .ok (.aload_n 0, 1) := by decide +kernel
theorem dX9_save_41 : decode cX9_save 41 = .ok (.dup, 1) := by decide +kernel
theorem dX9_save_42 : decode cX9_save 42 = .ok (.getfield 57, 3) := by decide +kernel
theorem dX9_save_45 : decode cX9_save 45 = .ok (.iconst 1, 1) := by decide +kernel
theorem dX9_save_46 : decode cX9_save 46 = .ok (.isub, 1) := by decide +kernel
theorem dX9_save_47 : decode cX9_save 47 = .ok (.putfield 57, 3) := by decide +kernel
theorem dX9_save_50 : decode cX9_save 50 = .ok (.aload_n 0, 1) := by decide +kernel
theorem dX9_save_51 : decode cX9_save 51 = .ok (.getfield 25, 3) := by decide +kernel
theorem dX9_save_54 : decode cX9_save 54 = .ok (.iconst 0, 1) := by decide +kernel
theorem dX9_save_55 : decode cX9_save 55 = .ok (.aload_n 0, 1) := by decide +kernel
theorem dX9_save_56 : decode cX9_save 56 = .ok (.getfield 31, 3) := by decide +kernel
theorem dX9_save_59 : decode cX9_save 59 = .ok (.sipush 1249, 3) := by decide +kernel
theorem dX9_save_62 : decode cX9_save 62 = .ok (.aload_n 0, 1) := by decide +kernel
theorem dX9_save_63 : decode cX9_save 63 = .ok (.getfield 57, 3) := by decide +kernel
theorem dX9_save_66 : decode cX9_save 66 = .ok (.imul, 1) := by decide +kernel
theorem dX9_save_67 : decode cX9_save 67 = .ok (.invokestatic 148, 3) := by decide +kernel
theorem dX9_save_70 : decode cX9_save 70 = .ok (.aload_n 0, 1) := by decide +kernel
theorem dX9_save_71 : decode cX9_save 71 = .ok (.dup, 1) := by decide +kernel
theorem dX9_save_72 : decode cX9_save 72 = .ok (.getfield 57, 3) := by decide +kernel
theorem dX9_save_75 : decode cX9_save 75 = .ok (.iconst 1, 1) := by decide +kernel
theorem dX9_save_76 : decode cX9_save 76 = .ok (.iadd, 1) := by decide +kernel
theorem dX9_save_77 : decode cX9_save 77 = .ok (.putfield 57, 3) := by decide +kernel
theorem dX9_save_80 : decode cX9_save 80 = .ok (.return_, 1) := by decide +kernel
set_option maxRecDepth 20000 in
theorem ggX9_canLay_X9_layCourse : GoodIn wsX9_canLay wsX9_layCourse := goodIn_r _ [5, 6, 7, 8, 9, 4, 10, 11, 12, 13, 14, 15, 16, 17, 18, 19, 20, 21, 22, 23, 24, 25, 26, 27, 28, 29, 30, 31, 32, 33, 34, 35, 36, 37, 38, 39, 40, 41, 42, 43, 44, 45, 46, 47, 48, 49, 50, 51, 52, 53, 54, 55, 56, 57, 58, 59, 60, 61, 62, 63, 64, 65, 66, 67, 68, 69, 70, 71, 72, 73, 78, 79, 80, 81, 82, 83, 84, 85, 86, 87, 88, 89, 90, 91, 92, 93, 94, 95] (by decide +kernel) (by decide +kernel)
set_option maxRecDepth 20000 in
theorem gX9_canLay_X9_layCourse : GoodIn wsX9_canLay (wsV RX9 152 RX9 yX9_layCourse wsX9_layCourse) := goodIn_app (goodIn_of _ (by decide +kernel)) ggX9_canLay_X9_layCourse
set_option maxRecDepth 20000 in
theorem ggX9_canLay_X9_takeUp : GoodIn wsX9_canLay wsX9_takeUp := goodIn_r _ [77, 6, 70, 71, 72, 4, 73, 50, 51, 52, 53, 54, 55, 56, 57, 78, 79, 80, 81, 82, 83, 84, 85, 86, 87, 88, 89, 90, 91, 92, 93, 94, 95] (by decide +kernel) (by decide +kernel)
set_option maxRecDepth 20000 in
theorem gX9_canLay_X9_takeUp : GoodIn wsX9_canLay (wsV RX9 155 RX9 yX9_takeUp wsX9_takeUp) := goodIn_app (goodIn_of _ (by decide +kernel)) ggX9_canLay_X9_takeUp
theorem dX9_canLay_0 : decode cX9_canLay 0 = .ok (.aload_n 0, 1) := by decide +kernel
theorem dX9_canLay_1 : decode cX9_canLay 1 = .ok (.iload_n 1, 1) := by decide +kernel
theorem dX9_canLay_2 : decode cX9_canLay 2 = .ok (.invokevirtual 152, 3) := by decide +kernel
theorem dX9_canLay_5 : decode cX9_canLay 5 = .ok (.istore_n 2, 1) := by decide +kernel
theorem dX9_canLay_6 : decode cX9_canLay 6 = .ok (.iload_n 2, 1) := by decide +kernel
theorem dX9_canLay_7 : decode cX9_canLay 7 = .ok (.ifCond .eq 7, 3) := by decide +kernel
theorem dX9_canLay_10 : decode cX9_canLay 10 = .ok (.aload_n 0, 1) := by decide +kernel
theorem dX9_canLay_11 : decode cX9_canLay 11 = .ok (.invokevirtual 155, 3) := by decide +kernel
theorem dX9_canLay_14 : decode cX9_canLay 14 = .ok (.iload_n 2, 1) := by decide +kernel
theorem dX9_canLay_15 : decode cX9_canLay 15 = .ok (.ireturn, 1) := by decide +kernel
set_option maxRecDepth 20000 in
theorem ggX9_course_X9_in : GoodIn wsX9_course wsX9_in := goodIn_r _ [5] (by decide +kernel) (by decide +kernel)
set_option maxRecDepth 20000 in
theorem gX9_course_X9_in : GoodIn wsX9_course (va_wsS RX9 66 yX9_in wsX9_in) := goodIn_app (goodIn_of _ (by decide +kernel)) ggX9_course_X9_in
set_option maxRecDepth 20000 in
theorem ggX9_course_X9_canLay : GoodIn wsX9_course wsX9_canLay := goodIn_r _ [9, 10, 11, 12, 4, 13, 1, 14, 15, 16, 17, 18, 19, 20, 21, 22, 23, 24, 25, 26, 27, 28, 29, 30, 31, 32, 33, 34, 35, 36, 37, 38, 39, 40, 41, 42, 43, 44, 45, 46, 47, 48, 49, 50, 51, 52, 53, 54, 55, 56, 57, 58, 59, 60, 61, 62, 63, 64, 65, 66, 67, 68, 69, 70, 71, 72, 73, 74, 75, 76, 77, 78, 79, 80, 81, 82, 83, 84, 94, 95, 96, 97, 98, 99, 100, 101, 102, 103, 104, 105, 106, 107, 108, 109, 110, 111] (by decide +kernel) (by decide +kernel)
set_option maxRecDepth 20000 in
theorem gX9_course_X9_canLay : GoodIn wsX9_course (wsV RX9 158 RX9 yX9_canLay wsX9_canLay) := goodIn_app (goodIn_of _ (by decide +kernel)) ggX9_course_X9_canLay
set_option maxRecDepth 20000 in
theorem ggX9_course_X9_save : GoodIn wsX9_course wsX9_save := goodIn_r _ [88, 89, 90, 1, 91, 92, 4, 93, 94, 95, 96, 97, 98, 99, 100, 101, 102, 103, 104, 105, 106, 107, 108, 109, 110, 111] (by decide +kernel) (by decide +kernel)
set_option maxRecDepth 20000 in
theorem gX9_course_X9_save : GoodIn wsX9_course (wsV RX9 161 RX9 yX9_save wsX9_save) := goodIn_app (goodIn_of _ (by decide +kernel)) ggX9_course_X9_save
set_option maxRecDepth 20000 in
theorem ggX9_course_X9_layCourse : GoodIn wsX9_course wsX9_layCourse := goodIn_r _ [13, 1, 14, 15, 16, 4, 17, 18, 19, 20, 21, 22, 23, 24, 25, 26, 27, 28, 29, 30, 31, 32, 33, 34, 35, 36, 37, 38, 39, 40, 41, 42, 43, 44, 45, 46, 47, 48, 49, 50, 51, 52, 53, 54, 55, 56, 57, 58, 59, 60, 61, 62, 63, 64, 65, 66, 67, 68, 69, 70, 71, 72, 73, 74, 75, 76, 77, 78, 79, 80, 94, 95, 96, 97, 98, 99, 100, 101, 102, 103, 104, 105, 106, 107, 108, 109, 110, 111] (by decide +kernel) (by decide +kernel)
set_option maxRecDepth 20000 in
theorem gX9_course_X9_layCourse : GoodIn wsX9_course (wsV RX9 152 RX9 yX9_layCourse wsX9_layCourse) := goodIn_app (goodIn_of _ (by decide +kernel)) ggX9_course_X9_layCourse
set_option maxRecDepth 20000 in
theorem ggX9_course_X9_slateCount : GoodIn wsX9_course wsX9_slateCount := goodIn_r _ [60, 1, 94, 95, 96, 97, 98, 99, 100, 101, 102, 103, 104, 105, 106, 107, 108, 109, 110, 111] (by decide +kernel) (by decide +kernel)
set_option maxRecDepth 20000 in
theorem gX9_course_X9_slateCount : GoodIn wsX9_course (wsV RX9 101 RX9 yX9_slateCount wsX9_slateCount) := goodIn_app (goodIn_of _ (by decide +kernel)) ggX9_course_X9_slateCount
theorem dX9_course_0 : decode cX9_course 0 = .ok (.iload_n 1, 1) := by decide +kernel
theorem dX9_course_1 : decode cX9_course 1 = .ok (.bipush 20, 2) := by decide +kernel
theorem dX9_course_3 : decode cX9_course 3 = .ok (.bipush 60, 2) := by decide +kernel
theorem dX9_course_5 : decode cX9_course 5 = .ok (.invokestatic 66, 3) := by decide +kernel
theorem dX9_course_8 : decode cX9_course 8 = .ok (.ifCond .ne 5, 3) := by decide +kernel
theorem dX9_course_11 : decode cX9_course 11 = .ok (.iconst (-1), 1) := by decide +kernel
theorem dX9_course_12 : decode cX9_course 12 = .ok (.ireturn, 1) := by decide +kernel
theorem dX9_course_13 : decode cX9_course 13 = .ok (.aload_n 0, 1) := by decide +kernel
theorem dX9_course_14 : decode cX9_course 14 = .ok (.iload_n 1, 1) := by decide +kernel
theorem dX9_course_15 : decode cX9_course 15 = .ok (.invokevirtual 158, 3) := by decide +kernel
theorem dX9_course_18 : decode cX9_course 18 = .ok (.ifCond .ne 6, 3) := by decide +kernel
theorem dX9_course_21 : decode cX9_course 21 = .ok (.bipush (-2), 2) := by decide +kernel
theorem dX9_course_23 : decode cX9_course 23 = .ok (.ireturn, 1) := by decide +kernel
theorem dX9_course_24 : decode cX9_course 24 = .ok (.aload_n 0, 1) := by decide +kernel
theorem dX9_course_25 : decode cX9_course 25 = .ok (.invokevirtual 161, 3) := by decide +kernel
theorem dX9_course_28 : decode cX9_course 28 = .ok (.aload_n 0, 1) := by decide +kernel
theorem dX9_course_29 : decode cX9_course 29 = .ok (.iload_n 1, 1) := by decide +kernel
theorem dX9_course_30 : decode cX9_course 30 = .ok (.invokevirtual 152, 3) := by decide +kernel
theorem dX9_course_33 : decode cX9_course 33 = .ok (.istore_n 2, 1) := by decide +kernel
theorem dX9_course_34 : decode cX9_course 34 = .ok (.aload_n 0, 1) := by decide +kernel
theorem dX9_course_35 : decode cX9_course 35 = .ok (.aload_n 0, 1) := by decide +kernel
theorem dX9_course_36 : decode cX9_course 36 = .ok (.getfield 25, 3) := by decide +kernel
theorem dX9_course_39 : decode cX9_course 39 = .ok (.bipush 8, 2) := by decide +kernel
theorem dX9_course_41 : decode cX9_course 41 = .ok (.iaload, 1) := by decide +kernel
theorem dX9_course_42 : decode cX9_course 42 = .ok (.iconst 1, 1) := by decide +kernel
theorem dX9_course_43 : decode cX9_course 43 = .ok (.isub, 1) := by decide +kernel
theorem dX9_course_44 : decode cX9_course 44 = .ok (.invokevirtual 101, 3) := by decide +kernel
theorem dX9_course_47 : decode cX9_course 47 = .ok (.ireturn, 1) := by decide +kernel
set_option maxRecDepth 20000 in
theorem ggX9_up_X9_save : GoodIn wsX9_up wsX9_save := goodIn_r _ [6, 7, 8, 1, 9, 10, 5, 11, 28, 29, 30, 31, 32, 33, 34, 35, 36, 37, 38, 39, 40, 41, 42, 43, 44, 45] (by decide +kernel) (by decide +kernel)
set_option maxRecDepth 20000 in
theorem gX9_up_X9_save : GoodIn wsX9_up (wsV RX9 161 RX9 yX9_save wsX9_save) := goodIn_app (goodIn_of _ (by decide +kernel)) ggX9_up_X9_save
set_option maxRecDepth 20000 in
theorem ggX9_up_X9_takeUp : GoodIn wsX9_up wsX9_takeUp := goodIn_r _ [15, 1, 16, 17, 18, 5, 19, 20, 21, 22, 23, 24, 25, 26, 27, 28, 29, 30, 31, 32, 33, 34, 35, 36, 37, 38, 39, 40, 41, 42, 43, 44, 45] (by decide +kernel) (by decide +kernel)
set_option maxRecDepth 20000 in
theorem gX9_up_X9_takeUp : GoodIn wsX9_up (wsV RX9 155 RX9 yX9_takeUp wsX9_takeUp) := goodIn_app (goodIn_of _ (by decide +kernel)) ggX9_up_X9_takeUp
theorem dX9_up_0 : decode cX9_up 0 = .ok (.aload_n 0, 1) := by decide +kernel
theorem dX9_up_1 : decode cX9_up 1 = .ok (.getfield 25, 3) := by decide +kernel
theorem dX9_up_4 : decode cX9_up 4 = .ok (.bipush 8, 2) := by decide +kernel
theorem dX9_up_6 : decode cX9_up 6 = .ok (.iaload, 1) := by decide +kernel
theorem dX9_up_7 : decode cX9_up 7 = .ok (.ifCond .ne 6, 3) := by decide +kernel
theorem dX9_up_10 : decode cX9_up 10 = .ok (.bipush (-2), 2) := by decide +kernel
theorem dX9_up_12 : decode cX9_up 12 = .ok (.ireturn, 1) := by decide +kernel
theorem dX9_up_13 : decode cX9_up 13 = .ok (.aload_n 0, 1) := by decide +kernel
theorem dX9_up_14 : decode cX9_up 14 = .ok (.invokevirtual 161, 3) := by decide +kernel
theorem dX9_up_17 : decode cX9_up 17 = .ok (.aload_n 0, 1) := by decide +kernel
theorem dX9_up_18 : decode cX9_up 18 = .ok (.invokevirtual 155, 3) := by decide +kernel
theorem dX9_up_21 : decode cX9_up 21 = .ok (.aload_n 0, 1) := by decide +kernel
theorem dX9_up_22 : decode cX9_up 22 = .ok (.getfield 25, 3) := by decide +kernel
theorem dX9_up_25 : decode cX9_up 25 = .ok (.bipush 8, 2) := by decide +kernel
theorem dX9_up_27 : decode cX9_up 27 = .ok (.iaload, 1) := by decide +kernel
theorem dX9_up_28 : decode cX9_up 28 = .ok (.ireturn, 1) := by decide +kernel
set_option maxRecDepth 20000 in
theorem ggX9_isHeap_X9_in : GoodIn wsX9_isHeap wsX9_in := goodIn_r _ [5] (by decide +kernel) (by decide +kernel)
set_option maxRecDepth 20000 in
theorem gX9_isHeap_X9_in : GoodIn wsX9_isHeap (va_wsS RX9 66 yX9_in wsX9_in) := goodIn_app (goodIn_of _ (by decide +kernel)) ggX9_isHeap_X9_in
theorem dX9_isHeap_0 : decode cX9_isHeap 0 = .ok (.iload_n 1, 1) := by decide +kernel
theorem dX9_isHeap_1 : decode cX9_isHeap 1 = .ok (.iconst 0, 1) := by decide +kernel
theorem dX9_isHeap_2 : decode cX9_isHeap 2 = .ok (.aload_n 0, 1) := by decide +kernel
theorem dX9_isHeap_3 : decode cX9_isHeap 3 = .ok (.getfield 54, 3) := by decide +kernel
theorem dX9_isHeap_6 : decode cX9_isHeap 6 = .ok (.iconst 1, 1) := by decide +kernel
theorem dX9_isHeap_7 : decode cX9_isHeap 7 = .ok (.isub, 1) := by decide +kernel
theorem dX9_isHeap_8 : decode cX9_isHeap 8 = .ok (.invokestatic 66, 3) := by decide +kernel
theorem dX9_isHeap_11 : decode cX9_isHeap 11 = .ok (.ireturn, 1) := by decide +kernel
set_option maxRecDepth 20000 in
theorem ggX9_bring_X9_isHeap : GoodIn wsX9_bring wsX9_isHeap := goodIn_r _ [6, 7, 8, 9, 5, 10, 20, 21, 22, 23, 24, 25, 26, 27, 28, 29, 30, 31, 32, 33, 34, 35, 36, 37] (by decide +kernel) (by decide +kernel)
set_option maxRecDepth 20000 in
theorem gX9_bring_X9_isHeap : GoodIn wsX9_bring (wsV RX9 164 RX9 yX9_isHeap wsX9_isHeap) := goodIn_app (goodIn_of _ (by decide +kernel)) ggX9_bring_X9_isHeap
set_option maxRecDepth 20000 in
theorem ggX9_bring_X9_in : GoodIn wsX9_bring wsX9_in := goodIn_r _ [10] (by decide +kernel) (by decide +kernel)
set_option maxRecDepth 20000 in
theorem gX9_bring_X9_in : GoodIn wsX9_bring (va_wsS RX9 66 yX9_in wsX9_in) := goodIn_app (goodIn_of _ (by decide +kernel)) ggX9_bring_X9_in
set_option maxRecDepth 20000 in
theorem ggX9_bring_X9_save : GoodIn wsX9_bring wsX9_save := goodIn_r _ [14, 15, 16, 1, 17, 18, 5, 19, 20, 21, 22, 23, 24, 25, 26, 27, 28, 29, 30, 31, 32, 33, 34, 35, 36, 37] (by decide +kernel) (by decide +kernel)
set_option maxRecDepth 20000 in
theorem gX9_bring_X9_save : GoodIn wsX9_bring (wsV RX9 161 RX9 yX9_save wsX9_save) := goodIn_app (goodIn_of _ (by decide +kernel)) ggX9_bring_X9_save
theorem dX9_bring_0 : decode cX9_bring 0 = .ok (.aload_n 0, 1) := by decide +kernel
theorem dX9_bring_1 : decode cX9_bring 1 = .ok (.iload_n 1, 1) := by decide +kernel
theorem dX9_bring_2 : decode cX9_bring 2 = .ok (.invokevirtual 164, 3) := by decide +kernel
theorem dX9_bring_5 : decode cX9_bring 5 = .ok (.ifCond .eq 13, 3) := by decide +kernel
theorem dX9_bring_8 : decode cX9_bring 8 = .ok (.iload_n 2, 1) := by decide +kernel
theorem dX9_bring_9 : decode cX9_bring 9 = .ok (.iconst 1, 1) := by decide +kernel
theorem dX9_bring_10 : decode cX9_bring 10 = .ok (.bipush 99, 2) := by decide +kernel
theorem dX9_bring_12 : decode cX9_bring 12 = .ok (.invokestatic 66, 3) := by decide +kernel
theorem dX9_bring_15 : decode cX9_bring 15 = .ok (.ifCond .ne 5, 3) := by decide +kernel
theorem dX9_bring_18 : decode cX9_bring 18 = .ok (.iconst (-1), 1) := by decide +kernel
theorem dX9_bring_19 : decode cX9_bring 19 = .ok (.ireturn, 1) := by decide +kernel
theorem dX9_bring_20 : decode cX9_bring 20 = .ok (.aload_n 0, 1) := by decide +kernel
theorem dX9_bring_21 : decode cX9_bring 21 = .ok (.getfield 25, 3) := by decide +kernel
theorem dX9_bring_24 : decode cX9_bring 24 = .ok (.iload_n 1, 1) := by decide +kernel
theorem dX9_bring_25 : decode cX9_bring 25 = .ok (.iaload, 1) := by decide +kernel
theorem dX9_bring_26 : decode cX9_bring 26 = .ok (.iload_n 2, 1) := by decide +kernel
theorem dX9_bring_27 : decode cX9_bring 27 = .ok (.iadd, 1) := by decide +kernel
theorem dX9_bring_28 : decode cX9_bring 28 = .ok (.sipush 999, 3) := by decide +kernel
theorem dX9_bring_31 : decode cX9_bring 31 = .ok (.if_icmp .le 6, 3) := by decide +kernel
theorem dX9_bring_34 : decode cX9_bring 34 = .ok (.bipush (-3), 2) := by decide +kernel
theorem dX9_bring_36 : decode cX9_bring 36 = .ok (.ireturn, 1) := by decide +kernel
theorem dX9_bring_37 : decode cX9_bring 37 = .ok (.aload_n 0, 1) := by decide +kernel
theorem dX9_bring_38 : decode cX9_bring 38 = .ok (.invokevirtual 161, 3) := by decide +kernel
theorem dX9_bring_41 : decode cX9_bring 41 = .ok (.aload_n 0, 1) := by decide +kernel
theorem dX9_bring_42 : decode cX9_bring 42 = .ok (.getfield 25, 3) := by decide +kernel
theorem dX9_bring_45 : decode cX9_bring 45 = .ok (.iload_n 1, 1) := by decide +kernel
theorem dX9_bring_46 : decode cX9_bring 46 = .ok (.dup2, 1) := by decide +kernel
theorem dX9_bring_47 : decode cX9_bring 47 = .ok (.iaload, 1) := by decide +kernel
theorem dX9_bring_48 : decode cX9_bring 48 = .ok (.iload_n 2, 1) := by decide +kernel
theorem dX9_bring_49 : decode cX9_bring 49 = .ok (.iadd, 1) := by decide +kernel
theorem dX9_bring_50 : decode cX9_bring 50 = .ok (.iastore, 1) := by decide +kernel
theorem dX9_bring_51 : decode cX9_bring 51 = .ok (.aload_n 0, 1) := by decide +kernel
theorem dX9_bring_52 : decode cX9_bring 52 = .ok (.getfield 25, 3) := by decide +kernel
theorem dX9_bring_55 : decode cX9_bring 55 = .ok (.iload_n 1, 1) := by decide +kernel
theorem dX9_bring_56 : decode cX9_bring 56 = .ok (.iaload, 1) := by decide +kernel
theorem dX9_bring_57 : decode cX9_bring 57 = .ok (.ireturn, 1) := by decide +kernel
set_option maxRecDepth 20000 in
theorem ggX9_undo_X9_copyState : GoodIn wsX9_undo wsX9_copyState := goodIn_r _ [7] (by decide +kernel) (by decide +kernel)
set_option maxRecDepth 20000 in
theorem gX9_undo_X9_copyState : GoodIn wsX9_undo (va_wsS RX9 148 yX9_copyState wsX9_copyState) := goodIn_app (goodIn_of _ (by decide +kernel)) ggX9_undo_X9_copyState
theorem dX9_undo_0 : decode cX9_undo 0 = .ok (.aload_n 0, 1) := by decide +kernel
theorem dX9_undo_1 : decode cX9_undo 1 = .ok (.getfield 57, 3) := by decide +kernel
theorem dX9_undo_4 : decode cX9_undo 4 = .ok (.ifCond .ne 6, 3) := by decide +kernel
theorem dX9_undo_7 : decode cX9_undo 7 = .ok (.bipush (-2), 2) := by decide +kernel
theorem dX9_undo_9 : decode cX9_undo 9 = .ok (.ireturn, 1) := by decide +kernel
theorem dX9_undo_10 : decode cX9_undo 10 = .ok (.aload_n 0, 1) := by decide +kernel
theorem dX9_undo_11 : decode cX9_undo 11 = .ok (.dup, 1) := by decide +kernel
theorem dX9_undo_12 : decode cX9_undo 12 = .ok (.getfield 57, 3) := by decide +kernel
theorem dX9_undo_15 : decode cX9_undo 15 = .ok (.iconst 1, 1) := by decide +kernel
theorem dX9_undo_16 : decode cX9_undo 16 = .ok (.isub, 1) := by decide +kernel
theorem dX9_undo_17 : decode cX9_undo 17 = .ok (.putfield 57, 3) := by decide +kernel
theorem dX9_undo_20 : decode cX9_undo 20 = .ok (.aload_n 0, 1) := by decide +kernel
theorem dX9_undo_21 : decode cX9_undo 21 = .ok (.getfield 31, 3) := by decide +kernel
theorem dX9_undo_24 : decode cX9_undo 24 = .ok (.sipush 1249, 3) := by decide +kernel
theorem dX9_undo_27 : decode cX9_undo 27 = .ok (.aload_n 0, 1) := by decide +kernel
theorem dX9_undo_28 : decode cX9_undo 28 = .ok (.getfield 57, 3) := by decide +kernel
theorem dX9_undo_31 : decode cX9_undo 31 = .ok (.imul, 1) := by decide +kernel
theorem dX9_undo_32 : decode cX9_undo 32 = .ok (.aload_n 0, 1) := by decide +kernel
theorem dX9_undo_33 : decode cX9_undo 33 = .ok (.getfield 25, 3) := by decide +kernel
theorem dX9_undo_36 : decode cX9_undo 36 = .ok (.iconst 0, 1) := by decide +kernel
theorem dX9_undo_37 : decode cX9_undo 37 = .ok (.invokestatic 148, 3) := by decide +kernel
theorem dX9_undo_40 : decode cX9_undo 40 = .ok (.aload_n 0, 1) := by decide +kernel
theorem dX9_undo_41 : decode cX9_undo 41 = .ok (.getfield 57, 3) := by decide +kernel
theorem dX9_undo_44 : decode cX9_undo 44 = .ok (.ireturn, 1) := by decide +kernel
set_option maxRecDepth 20000 in
theorem ggX9_laidOf_X9_slateCount : GoodIn wsX9_laidOf wsX9_slateCount := goodIn_r _ [6, 1, 11, 12, 13, 14, 15, 16, 17, 18, 19, 20, 21, 22, 23, 24, 25, 26, 27, 28] (by decide +kernel) (by decide +kernel)
set_option maxRecDepth 20000 in
theorem gX9_laidOf_X9_slateCount : GoodIn wsX9_laidOf (wsV RX9 101 RX9 yX9_slateCount wsX9_slateCount) := goodIn_app (goodIn_of _ (by decide +kernel)) ggX9_laidOf_X9_slateCount
set_option maxRecDepth 20000 in
theorem ggX9_laidOf_X9_slateOf : GoodIn wsX9_laidOf wsX9_slateOf := goodIn_r _ [10, 1, 11, 12, 13, 14, 15, 16, 17, 18, 19, 20, 21, 22, 23, 24, 25, 26, 27, 28] (by decide +kernel) (by decide +kernel)
set_option maxRecDepth 20000 in
theorem gX9_laidOf_X9_slateOf : GoodIn wsX9_laidOf (wsV RX9 104 RX9 yX9_slateOf wsX9_slateOf) := goodIn_app (goodIn_of _ (by decide +kernel)) ggX9_laidOf_X9_slateOf
theorem dX9_laidOf_0 : decode cX9_laidOf 0 = .ok (.iconst 0, 1) := by decide +kernel
theorem dX9_laidOf_1 : decode cX9_laidOf 1 = .ok (.istore_n 2, 1) := by decide +kernel
theorem dX9_laidOf_2 : decode cX9_laidOf 2 = .ok (.iconst 0, 1) := by decide +kernel
theorem dX9_laidOf_3 : decode cX9_laidOf 3 = .ok (.istore_n 3, 1) := by decide +kernel
theorem dX9_laidOf_4 : decode cX9_laidOf 4 = .ok (.iload_n 3, 1) := by decide +kernel
theorem dX9_laidOf_5 : decode cX9_laidOf 5 = .ok (.aload_n 0, 1) := by decide +kernel
theorem dX9_laidOf_6 : decode cX9_laidOf 6 = .ok (.getfield 25, 3) := by decide +kernel
theorem dX9_laidOf_9 : decode cX9_laidOf 9 = .ok (.bipush 8, 2) := by decide +kernel
theorem dX9_laidOf_11 : decode cX9_laidOf 11 = .ok (.iaload, 1) := by decide +kernel
theorem dX9_laidOf_12 : decode cX9_laidOf 12 = .ok (.if_icmp .ge 50, 3) := by decide +kernel
theorem dX9_laidOf_15 : decode cX9_laidOf 15 = .ok (.iconst 0, 1) := by decide +kernel
theorem dX9_laidOf_16 : decode cX9_laidOf 16 = .ok (.istore 4, 2) := by decide +kernel
theorem dX9_laidOf_18 : decode cX9_laidOf 18 = .ok (.iload 4, 2) := by decide +kernel
theorem dX9_laidOf_20 : decode cX9_laidOf 20 = .ok (.aload_n 0, 1) := by decide +kernel
theorem dX9_laidOf_21 : decode cX9_laidOf 21 = .ok (.iload_n 3, 1) := by decide +kernel
theorem dX9_laidOf_22 : decode cX9_laidOf 22 = .ok (.invokevirtual 101, 3) := by decide +kernel
theorem dX9_laidOf_25 : decode cX9_laidOf 25 = .ok (.if_icmp .ge 31, 3) := by decide +kernel
theorem dX9_laidOf_28 : decode cX9_laidOf 28 = .ok (.iload_n 2, 1) := by decide +kernel
theorem dX9_laidOf_29 : decode cX9_laidOf 29 = .ok (.aload_n 0, 1) := by decide +kernel
theorem dX9_laidOf_30 : decode cX9_laidOf 30 = .ok (.iload_n 3, 1) := by decide +kernel
theorem dX9_laidOf_31 : decode cX9_laidOf 31 = .ok (.iload 4, 2) := by decide +kernel
theorem dX9_laidOf_33 : decode cX9_laidOf 33 = .ok (.invokevirtual 104, 3) := by decide +kernel
theorem dX9_laidOf_36 : decode cX9_laidOf 36 = .ok (.bipush 64, 2) := by decide +kernel
theorem dX9_laidOf_38 : decode cX9_laidOf 38 = .ok (.idiv, 1) := by decide +kernel
theorem dX9_laidOf_39 : decode cX9_laidOf 39 = .ok (.iload_n 1, 1) := by decide +kernel
theorem dX9_laidOf_40 : decode cX9_laidOf 40 = .ok (.if_icmp .ne 7, 3) := by decide +kernel
theorem dX9_laidOf_43 : decode cX9_laidOf 43 = .ok (.iconst 1, 1) := by decide +kernel
theorem dX9_laidOf_44 : decode cX9_laidOf 44 = .ok (.goto 4, 3) := by decide +kernel
theorem dX9_laidOf_47 : decode cX9_laidOf 47 = .ok (.iconst 0, 1) := by decide +kernel
theorem dX9_laidOf_48 : decode cX9_laidOf 48 = .ok (.iadd, 1) := by decide +kernel
theorem dX9_laidOf_49 : decode cX9_laidOf 49 = .ok (.istore_n 2, 1) := by decide +kernel
theorem dX9_laidOf_50 : decode cX9_laidOf 50 = .ok (.iinc 4 1, 3) := by decide +kernel
theorem dX9_laidOf_53 : decode cX9_laidOf 53 = .ok (.goto (-35), 3) := by decide +kernel
theorem dX9_laidOf_56 : decode cX9_laidOf 56 = .ok (.iinc 3 1, 3) := by decide +kernel
theorem dX9_laidOf_59 : decode cX9_laidOf 59 = .ok (.goto (-55), 3) := by decide +kernel
theorem dX9_laidOf_62 : decode cX9_laidOf 62 = .ok (.iload_n 2, 1) := by decide +kernel
theorem dX9_laidOf_63 : decode cX9_laidOf 63 = .ok (.ireturn, 1) := by decide +kernel
set_option maxRecDepth 20000 in
theorem ggX9_heap_X9_isHeap : GoodIn wsX9_heap wsX9_isHeap := goodIn_r _ [7, 8, 9, 10, 6, 11, 24, 25, 26, 27, 28, 29, 30, 31, 32, 33, 34, 35, 36, 37, 38, 39, 40, 41] (by decide +kernel) (by decide +kernel)
set_option maxRecDepth 20000 in
theorem gX9_heap_X9_isHeap : GoodIn wsX9_heap (wsV RX9 164 RX9 yX9_isHeap wsX9_isHeap) := goodIn_app (goodIn_of _ (by decide +kernel)) ggX9_heap_X9_isHeap
set_option maxRecDepth 20000 in
theorem ggX9_heap_X9_in : GoodIn wsX9_heap wsX9_in := goodIn_r _ [11] (by decide +kernel) (by decide +kernel)
set_option maxRecDepth 20000 in
theorem gX9_heap_X9_in : GoodIn wsX9_heap (va_wsS RX9 66 yX9_in wsX9_in) := goodIn_app (goodIn_of _ (by decide +kernel)) ggX9_heap_X9_in
set_option maxRecDepth 20000 in
theorem ggX9_heap_X9_laidOf : GoodIn wsX9_heap wsX9_laidOf := goodIn_r _ [15, 2, 16, 17, 18, 6, 19, 20, 21, 22, 23, 24, 25, 26, 27, 28, 29, 30, 31, 32, 33, 34, 35, 36, 37, 38, 39, 40, 41] (by decide +kernel) (by decide +kernel)
set_option maxRecDepth 20000 in
theorem gX9_heap_X9_laidOf : GoodIn wsX9_heap (wsV RX9 167 RX9 yX9_laidOf wsX9_laidOf) := goodIn_app (goodIn_of _ (by decide +kernel)) ggX9_heap_X9_laidOf
theorem dX9_heap_0 : decode cX9_heap 0 = .ok (.aload_n 0, 1) := by decide +kernel
theorem dX9_heap_1 : decode cX9_heap 1 = .ok (.iload_n 1, 1) := by decide +kernel
theorem dX9_heap_2 : decode cX9_heap 2 = .ok (.invokevirtual 164, 3) := by decide +kernel
theorem dX9_heap_5 : decode cX9_heap 5 = .ok (.ifCond .eq 12, 3) := by decide +kernel
theorem dX9_heap_8 : decode cX9_heap 8 = .ok (.iload_n 2, 1) := by decide +kernel
theorem dX9_heap_9 : decode cX9_heap 9 = .ok (.iconst 0, 1) := by decide +kernel
theorem dX9_heap_10 : decode cX9_heap 10 = .ok (.iconst 3, 1) := by decide +kernel
theorem dX9_heap_11 : decode cX9_heap 11 = .ok (.invokestatic 66, 3) := by decide +kernel
theorem dX9_heap_14 : decode cX9_heap 14 = .ok (.ifCond .ne 5, 3) := by decide +kernel
theorem dX9_heap_17 : decode cX9_heap 17 = .ok (.iconst (-1), 1) := by decide +kernel
theorem dX9_heap_18 : decode cX9_heap 18 = .ok (.ireturn, 1) := by decide +kernel
theorem dX9_heap_19 : decode cX9_heap 19 = .ok (.iload_n 2, 1) := by decide +kernel
theorem dX9_heap_20 : decode cX9_heap 20 = .ok (.iconst 2, 1) := by decide +kernel
theorem dX9_heap_21 : decode cX9_heap 21 = .ok (.if_icmp .ge 16, 3) := by decide +kernel
theorem dX9_heap_24 : decode cX9_heap 24 = .ok (.aload_n 0, 1) := by decide +kernel
theorem dX9_heap_25 : decode cX9_heap 25 = .ok (.getfield 19, 3) := by decide +kernel
theorem dX9_heap_28 : decode cX9_heap 28 = .ok (.iconst 3, 1) := by decide +kernel
theorem dX9_heap_29 : decode cX9_heap 29 = .ok (.iload_n 1, 1) := by decide +kernel
theorem dX9_heap_30 : decode cX9_heap 30 = .ok (.imul, 1) := by decide +kernel
theorem dX9_heap_31 : decode cX9_heap 31 = .ok (.iload_n 2, 1) := by decide +kernel
theorem dX9_heap_32 : decode cX9_heap 32 = .ok (.iadd, 1) := by decide +kernel
theorem dX9_heap_33 : decode cX9_heap 33 = .ok (.iaload, 1) := by decide +kernel
theorem dX9_heap_34 : decode cX9_heap 34 = .ok (.goto 22, 3) := by decide +kernel
theorem dX9_heap_37 : decode cX9_heap 37 = .ok (.iload_n 2, 1) := by decide +kernel
theorem dX9_heap_38 : decode cX9_heap 38 = .ok (.iconst 2, 1) := by decide +kernel
theorem dX9_heap_39 : decode cX9_heap 39 = .ok (.if_icmp .ne 12, 3) := by decide +kernel
theorem dX9_heap_42 : decode cX9_heap 42 = .ok (.aload_n 0, 1) := by decide +kernel
theorem dX9_heap_43 : decode cX9_heap 43 = .ok (.getfield 25, 3) := by decide +kernel
theorem dX9_heap_46 : decode cX9_heap 46 = .ok (.iload_n 1, 1) := by decide +kernel
theorem dX9_heap_47 : decode cX9_heap 47 = .ok (.iaload, 1) := by decide +kernel
theorem dX9_heap_48 : decode cX9_heap 48 = .ok (.goto 8, 3) := by decide +kernel
theorem dX9_heap_51 : decode cX9_heap 51 = .ok (.aload_n 0, 1) := by decide +kernel
theorem dX9_heap_52 : decode cX9_heap 52 = .ok (.iload_n 1, 1) := by decide +kernel
theorem dX9_heap_53 : decode cX9_heap 53 = .ok (.invokevirtual 167, 3) := by decide +kernel
theorem dX9_heap_56 : decode cX9_heap 56 = .ok (.ireturn, 1) := by decide +kernel
set_option maxRecDepth 20000 in
theorem ggX9_isCourse_X9_in : GoodIn wsX9_isCourse wsX9_in := goodIn_r _ [5] (by decide +kernel) (by decide +kernel)
set_option maxRecDepth 20000 in
theorem gX9_isCourse_X9_in : GoodIn wsX9_isCourse (va_wsS RX9 66 yX9_in wsX9_in) := goodIn_app (goodIn_of _ (by decide +kernel)) ggX9_isCourse_X9_in
theorem dX9_isCourse_0 : decode cX9_isCourse 0 = .ok (.iload_n 1, 1) := by decide +kernel
theorem dX9_isCourse_1 : decode cX9_isCourse 1 = .ok (.iconst 0, 1) := by decide +kernel
theorem dX9_isCourse_2 : decode cX9_isCourse 2 = .ok (.aload_n 0, 1) := by decide +kernel
theorem dX9_isCourse_3 : decode cX9_isCourse 3 = .ok (.getfield 25, 3) := by decide +kernel
theorem dX9_isCourse_6 : decode cX9_isCourse 6 = .ok (.bipush 8, 2) := by decide +kernel
theorem dX9_isCourse_8 : decode cX9_isCourse 8 = .ok (.iaload, 1) := by decide +kernel
theorem dX9_isCourse_9 : decode cX9_isCourse 9 = .ok (.iconst 1, 1) := by decide +kernel
theorem dX9_isCourse_10 : decode cX9_isCourse 10 = .ok (.isub, 1) := by decide +kernel
theorem dX9_isCourse_11 : decode cX9_isCourse 11 = .ok (.invokestatic 66, 3) := by decide +kernel
theorem dX9_isCourse_14 : decode cX9_isCourse 14 = .ok (.ireturn, 1) := by decide +kernel
set_option maxRecDepth 20000 in
theorem ggX9_lapHeld_X9_courseLength : GoodIn wsX9_lapHeld wsX9_courseLength := goodIn_r _ [6, 1, 12, 13, 14, 15, 16, 17, 18, 19, 20, 21, 22, 23, 24, 25, 26, 27, 28, 29] (by decide +kernel) (by decide +kernel)
set_option maxRecDepth 20000 in
theorem gX9_lapHeld_X9_courseLength : GoodIn wsX9_lapHeld (wsV RX9 91 RX9 yX9_courseLength wsX9_courseLength) := goodIn_app (goodIn_of _ (by decide +kernel)) ggX9_lapHeld_X9_courseLength
set_option maxRecDepth 20000 in
theorem ggX9_lapHeld_X9_gauge : GoodIn wsX9_lapHeld wsX9_gauge := goodIn_r _ [10, 11, 12, 13, 14, 15, 16, 17, 18, 19, 20, 21, 22, 23, 24, 25, 26, 27, 28, 29] (by decide +kernel) (by decide +kernel)
set_option maxRecDepth 20000 in
theorem gX9_lapHeld_X9_gauge : GoodIn wsX9_lapHeld (wsV RX9 95 RX9 yX9_gauge wsX9_gauge) := goodIn_app (goodIn_of _ (by decide +kernel)) ggX9_lapHeld_X9_gauge
theorem dX9_lapHeld_0 : decode cX9_lapHeld 0 = .ok (.iload_n 1, 1) := by decide +kernel
theorem dX9_lapHeld_1 : decode cX9_lapHeld 1 = .ok (.iconst 1, 1) := by decide +kernel
theorem dX9_lapHeld_2 : decode cX9_lapHeld 2 = .ok (.iadd, 1) := by decide +kernel
theorem dX9_lapHeld_3 : decode cX9_lapHeld 3 = .ok (.aload_n 0, 1) := by decide +kernel
theorem dX9_lapHeld_4 : decode cX9_lapHeld 4 = .ok (.getfield 25, 3) := by decide +kernel
theorem dX9_lapHeld_7 : decode cX9_lapHeld 7 = .ok (.bipush 8, 2) := by decide +kernel
theorem dX9_lapHeld_9 : decode cX9_lapHeld 9 = .ok (.iaload, 1) := by decide +kernel
theorem dX9_lapHeld_10 : decode cX9_lapHeld 10 = .ok (.if_icmp .ne 8, 3) := by decide +kernel
theorem dX9_lapHeld_13 : decode cX9_lapHeld 13 = .ok (.bipush (-4), 2) := by decide +kernel
theorem dX9_lapHeld_15 : decode cX9_lapHeld 15 = .ok (.goto 30, 3) := by decide +kernel
theorem dX9_lapHeld_18 : decode cX9_lapHeld 18 = .ok (.aload_n 0, 1) := by decide +kernel
theorem dX9_lapHeld_19 : decode cX9_lapHeld 19 = .ok (.iload_n 1, 1) := by decide +kernel
theorem dX9_lapHeld_20 : decode cX9_lapHeld 20 = .ok (.invokevirtual 91, 3) := by decide +kernel
theorem dX9_lapHeld_23 : decode cX9_lapHeld 23 = .ok (.aload_n 0, 1) := by decide +kernel
theorem dX9_lapHeld_24 : decode cX9_lapHeld 24 = .ok (.aload_n 0, 1) := by decide +kernel
theorem dX9_lapHeld_25 : decode cX9_lapHeld 25 = .ok (.iload_n 1, 1) := by decide +kernel
theorem dX9_lapHeld_26 : decode cX9_lapHeld 26 = .ok (.invokevirtual 91, 3) := by decide +kernel
theorem dX9_lapHeld_29 : decode cX9_lapHeld 29 = .ok (.invokevirtual 95, 3) := by decide +kernel
theorem dX9_lapHeld_32 : decode cX9_lapHeld 32 = .ok (.isub, 1) := by decide +kernel
theorem dX9_lapHeld_33 : decode cX9_lapHeld 33 = .ok (.aload_n 0, 1) := by decide +kernel
theorem dX9_lapHeld_34 : decode cX9_lapHeld 34 = .ok (.aload_n 0, 1) := by decide +kernel
theorem dX9_lapHeld_35 : decode cX9_lapHeld 35 = .ok (.iload_n 1, 1) := by decide +kernel
theorem dX9_lapHeld_36 : decode cX9_lapHeld 36 = .ok (.iconst 1, 1) := by decide +kernel
theorem dX9_lapHeld_37 : decode cX9_lapHeld 37 = .ok (.iadd, 1) := by decide +kernel
theorem dX9_lapHeld_38 : decode cX9_lapHeld 38 = .ok (.invokevirtual 91, 3) := by decide +kernel
theorem dX9_lapHeld_41 : decode cX9_lapHeld 41 = .ok (.invokevirtual 95, 3) := by decide +kernel
theorem dX9_lapHeld_44 : decode cX9_lapHeld 44 = .ok (.isub, 1) := by decide +kernel
theorem dX9_lapHeld_45 : decode cX9_lapHeld 45 = .ok (.ireturn, 1) := by decide +kernel
set_option maxRecDepth 20000 in
theorem ggX9_told_X9_isCourse : GoodIn wsX9_told wsX9_isCourse := goodIn_r _ [5, 6, 7, 8, 4, 9, 52, 53, 54, 55, 56, 57, 58, 59, 60, 61, 62, 63, 64, 65, 66, 67, 68, 69] (by decide +kernel) (by decide +kernel)
set_option maxRecDepth 20000 in
theorem gX9_told_X9_isCourse : GoodIn wsX9_told (wsV RX9 170 RX9 yX9_isCourse wsX9_isCourse) := goodIn_app (goodIn_of _ (by decide +kernel)) ggX9_told_X9_isCourse
set_option maxRecDepth 20000 in
theorem ggX9_told_X9_in : GoodIn wsX9_told wsX9_in := goodIn_r _ [9] (by decide +kernel) (by decide +kernel)
set_option maxRecDepth 20000 in
theorem gX9_told_X9_in : GoodIn wsX9_told (va_wsS RX9 66 yX9_in wsX9_in) := goodIn_app (goodIn_of _ (by decide +kernel)) ggX9_told_X9_in
set_option maxRecDepth 20000 in
theorem ggX9_told_X9_courseLength : GoodIn wsX9_told wsX9_courseLength := goodIn_r _ [13, 6, 52, 53, 54, 55, 56, 57, 58, 59, 60, 61, 62, 63, 64, 65, 66, 67, 68, 69] (by decide +kernel) (by decide +kernel)
set_option maxRecDepth 20000 in
theorem gX9_told_X9_courseLength : GoodIn wsX9_told (wsV RX9 91 RX9 yX9_courseLength wsX9_courseLength) := goodIn_app (goodIn_of _ (by decide +kernel)) ggX9_told_X9_courseLength
set_option maxRecDepth 20000 in
theorem ggX9_told_X9_foot : GoodIn wsX9_told wsX9_foot := goodIn_r _ [17, 10, 11, 12, 4, 13, 6, 18, 19, 20, 21, 22, 52, 53, 54, 55, 56, 57, 58, 59, 60, 61, 62, 63, 64, 65, 66, 67, 68, 69] (by decide +kernel) (by decide +kernel)
set_option maxRecDepth 20000 in
theorem gX9_told_X9_foot : GoodIn wsX9_told (wsV RX9 98 RX9 yX9_foot wsX9_foot) := goodIn_app (goodIn_of _ (by decide +kernel)) ggX9_told_X9_foot
set_option maxRecDepth 20000 in
theorem ggX9_told_X9_gauge : GoodIn wsX9_told wsX9_gauge := goodIn_r _ [21, 22, 52, 53, 54, 55, 56, 57, 58, 59, 60, 61, 62, 63, 64, 65, 66, 67, 68, 69] (by decide +kernel) (by decide +kernel)
set_option maxRecDepth 20000 in
theorem gX9_told_X9_gauge : GoodIn wsX9_told (wsV RX9 95 RX9 yX9_gauge wsX9_gauge) := goodIn_app (goodIn_of _ (by decide +kernel)) ggX9_told_X9_gauge
set_option maxRecDepth 20000 in
theorem ggX9_told_X9_room : GoodIn wsX9_told wsX9_room := goodIn_r _ [26, 22, 14, 15, 16, 4, 17, 10, 11, 12, 13, 6, 18, 19, 20, 21, 52, 53, 54, 55, 56, 57, 58, 59, 60, 61, 62, 63, 64, 65, 66, 67, 68, 69] (by decide +kernel) (by decide +kernel)
set_option maxRecDepth 20000 in
theorem gX9_told_X9_room : GoodIn wsX9_told (wsV RX9 126 RX9 yX9_room wsX9_room) := goodIn_app (goodIn_of _ (by decide +kernel)) ggX9_told_X9_room
set_option maxRecDepth 20000 in
theorem ggX9_told_X9_slateCount : GoodIn wsX9_told wsX9_slateCount := goodIn_r _ [30, 6, 52, 53, 54, 55, 56, 57, 58, 59, 60, 61, 62, 63, 64, 65, 66, 67, 68, 69] (by decide +kernel) (by decide +kernel)
set_option maxRecDepth 20000 in
theorem gX9_told_X9_slateCount : GoodIn wsX9_told (wsV RX9 101 RX9 yX9_slateCount wsX9_slateCount) := goodIn_app (goodIn_of _ (by decide +kernel)) ggX9_told_X9_slateCount
set_option maxRecDepth 20000 in
theorem ggX9_told_X9_waste : GoodIn wsX9_told wsX9_waste := goodIn_r _ [34, 27, 28, 29, 4, 30, 6, 35, 36, 37, 38, 39, 40, 41, 42, 43, 10, 11, 12, 13, 52, 53, 54, 55, 56, 57, 58, 59, 60, 61, 62, 63, 64, 65, 66, 67, 68, 69] (by decide +kernel) (by decide +kernel)
set_option maxRecDepth 20000 in
theorem gX9_told_X9_waste : GoodIn wsX9_told (wsV RX9 173 RX9 yX9_waste wsX9_waste) := goodIn_app (goodIn_of _ (by decide +kernel)) ggX9_told_X9_waste
set_option maxRecDepth 20000 in
theorem ggX9_told_X9_lapHeld : GoodIn wsX9_told wsX9_lapHeld := goodIn_r _ [47, 6, 10, 11, 12, 4, 13, 18, 19, 20, 21, 22, 52, 53, 54, 55, 56, 57, 58, 59, 60, 61, 62, 63, 64, 65, 66, 67, 68, 69] (by decide +kernel) (by decide +kernel)
set_option maxRecDepth 20000 in
theorem gX9_told_X9_lapHeld : GoodIn wsX9_told (wsV RX9 176 RX9 yX9_lapHeld wsX9_lapHeld) := goodIn_app (goodIn_of _ (by decide +kernel)) ggX9_told_X9_lapHeld
set_option maxRecDepth 20000 in
theorem ggX9_told_X9_cutCount : GoodIn wsX9_told wsX9_cutCount := goodIn_r _ [51, 27, 28, 29, 4, 30, 6, 35, 36, 37, 38, 39, 40, 41, 42, 43, 52, 53, 54, 55, 56, 57, 58, 59, 60, 61, 62, 63, 64, 65, 66, 67, 68, 69] (by decide +kernel) (by decide +kernel)
set_option maxRecDepth 20000 in
theorem gX9_told_X9_cutCount : GoodIn wsX9_told (wsV RX9 179 RX9 yX9_cutCount wsX9_cutCount) := goodIn_app (goodIn_of _ (by decide +kernel)) ggX9_told_X9_cutCount
theorem dX9_told_0 : decode cX9_told 0 = .ok (.aload_n 0, 1) := by decide +kernel
theorem dX9_told_1 : decode cX9_told 1 = .ok (.iload_n 1, 1) := by decide +kernel
theorem dX9_told_2 : decode cX9_told 2 = .ok (.invokevirtual 170, 3) := by decide +kernel
theorem dX9_told_5 : decode cX9_told 5 = .ok (.ifCond .eq 13, 3) := by decide +kernel
theorem dX9_told_8 : decode cX9_told 8 = .ok (.iload_n 2, 1) := by decide +kernel
theorem dX9_told_9 : decode cX9_told 9 = .ok (.iconst 0, 1) := by decide +kernel
theorem dX9_told_10 : decode cX9_told 10 = .ok (.bipush 7, 2) := by decide +kernel
theorem dX9_told_12 : decode cX9_told 12 = .ok (.invokestatic 66, 3) := by decide +kernel
theorem dX9_told_15 : decode cX9_told 15 = .ok (.ifCond .ne 5, 3) := by decide +kernel
theorem dX9_told_18 : decode cX9_told 18 = .ok (.iconst (-1), 1) := by decide +kernel
theorem dX9_told_19 : decode cX9_told 19 = .ok (.ireturn, 1) := by decide +kernel
theorem dX9_told_20 : decode cX9_told 20 = .ok (.iload_n 2, 1) := by decide +kernel
theorem dX9_told_21 : decode cX9_told 21 = .ok (.tableswitch 89 0 6 #[43, 49, 55, 65, 71, 77, 83], 43) := by decide +kernel
theorem dX9_told_64 : decode cX9_told 64 = .ok (.aload_n 0, 1) := by decide +kernel
theorem dX9_told_65 : decode cX9_told 65 = .ok (.iload_n 1, 1) := by decide +kernel
theorem dX9_told_66 : decode cX9_told 66 = .ok (.invokevirtual 91, 3) := by decide +kernel
theorem dX9_told_69 : decode cX9_told 69 = .ok (.ireturn, 1) := by decide +kernel
theorem dX9_told_70 : decode cX9_told 70 = .ok (.aload_n 0, 1) := by decide +kernel
theorem dX9_told_71 : decode cX9_told 71 = .ok (.iload_n 1, 1) := by decide +kernel
theorem dX9_told_72 : decode cX9_told 72 = .ok (.invokevirtual 98, 3) := by decide +kernel
theorem dX9_told_75 : decode cX9_told 75 = .ok (.ireturn, 1) := by decide +kernel
theorem dX9_told_76 : decode cX9_told 76 = .ok (.aload_n 0, 1) := by decide +kernel
theorem dX9_told_77 : decode cX9_told 77 = .ok (.aload_n 0, 1) := by decide +kernel
theorem dX9_told_78 : decode cX9_told 78 = .ok (.iload_n 1, 1) := by decide +kernel
theorem dX9_told_79 : decode cX9_told 79 = .ok (.invokevirtual 91, 3) := by decide +kernel
theorem dX9_told_82 : decode cX9_told 82 = .ok (.invokevirtual 95, 3) := by decide +kernel
theorem dX9_told_85 : decode cX9_told 85 = .ok (.ireturn, 1) := by decide +kernel
theorem dX9_told_86 : decode cX9_told 86 = .ok (.aload_n 0, 1) := by decide +kernel
theorem dX9_told_87 : decode cX9_told 87 = .ok (.iload_n 1, 1) := by decide +kernel
theorem dX9_told_88 : decode cX9_told 88 = .ok (.invokevirtual 126, 3) := by decide +kernel
theorem dX9_told_91 : decode cX9_told 91 = .ok (.ireturn, 1) := by decide +kernel
theorem dX9_told_92 : decode cX9_told 92 = .ok (.aload_n 0, 1) := by decide +kernel
theorem dX9_told_93 : decode cX9_told 93 = .ok (.iload_n 1, 1) := by decide +kernel
theorem dX9_told_94 : decode cX9_told 94 = .ok (.invokevirtual 101, 3) := by decide +kernel
theorem dX9_told_97 : decode cX9_told 97 = .ok (.ireturn, 1) := by decide +kernel
theorem dX9_told_98 : decode cX9_told 98 = .ok (.aload_n 0, 1) := by decide +kernel
theorem dX9_told_99 : decode cX9_told 99 = .ok (.iload_n 1, 1) := by decide +kernel
theorem dX9_told_100 : decode cX9_told 100 = .ok (.invokevirtual 173, 3) := by decide +kernel
theorem dX9_told_103 : decode cX9_told 103 = .ok (.ireturn, 1) := by decide +kernel
theorem dX9_told_104 : decode cX9_told 104 = .ok (.aload_n 0, 1) := by decide +kernel
theorem dX9_told_105 : decode cX9_told 105 = .ok (.iload_n 1, 1) := by decide +kernel
theorem dX9_told_106 : decode cX9_told 106 = .ok (.invokevirtual 176, 3) := by decide +kernel
theorem dX9_told_109 : decode cX9_told 109 = .ok (.ireturn, 1) := by decide +kernel
theorem dX9_told_110 : decode cX9_told 110 = .ok (.aload_n 0, 1) := by decide +kernel
theorem dX9_told_111 : decode cX9_told 111 = .ok (.iload_n 1, 1) := by decide +kernel
theorem dX9_told_112 : decode cX9_told 112 = .ok (.invokevirtual 179, 3) := by decide +kernel
theorem dX9_told_115 : decode cX9_told 115 = .ok (.ireturn, 1) := by decide +kernel
set_option maxRecDepth 20000 in
theorem ggX9_joint_X9_isCourse : GoodIn wsX9_joint wsX9_isCourse := goodIn_r _ [7, 8, 9, 10, 6, 11, 24, 25, 26, 27, 28, 29, 30, 31, 32, 33, 34, 35, 36, 37, 38, 39, 40, 41] (by decide +kernel) (by decide +kernel)
set_option maxRecDepth 20000 in
theorem gX9_joint_X9_isCourse : GoodIn wsX9_joint (wsV RX9 170 RX9 yX9_isCourse wsX9_isCourse) := goodIn_app (goodIn_of _ (by decide +kernel)) ggX9_joint_X9_isCourse
set_option maxRecDepth 20000 in
theorem ggX9_joint_X9_findJoints : GoodIn wsX9_joint wsX9_findJoints := goodIn_r _ [15, 1, 2, 16, 17, 18, 6, 19, 8, 20, 21, 22, 23, 24, 25, 26, 27, 28, 29, 30, 31, 32, 33, 34, 35, 36, 37, 38, 39, 40, 41] (by decide +kernel) (by decide +kernel)
set_option maxRecDepth 20000 in
theorem gX9_joint_X9_findJoints : GoodIn wsX9_joint (wsV RX9 129 RX9 yX9_findJoints wsX9_findJoints) := goodIn_app (goodIn_of _ (by decide +kernel)) ggX9_joint_X9_findJoints
theorem dX9_joint_0 : decode cX9_joint 0 = .ok (.aload_n 0, 1) := by decide +kernel
theorem dX9_joint_1 : decode cX9_joint 1 = .ok (.iload_n 1, 1) := by decide +kernel
theorem dX9_joint_2 : decode cX9_joint 2 = .ok (.invokevirtual 170, 3) := by decide +kernel
theorem dX9_joint_5 : decode cX9_joint 5 = .ok (.ifCond .eq 7, 3) := by decide +kernel
theorem dX9_joint_8 : decode cX9_joint 8 = .ok (.iload_n 2, 1) := by decide +kernel
theorem dX9_joint_9 : decode cX9_joint 9 = .ok (.ifCond .ge 5, 3) := by decide +kernel
theorem dX9_joint_12 : decode cX9_joint 12 = .ok (.iconst (-1), 1) := by decide +kernel
theorem dX9_joint_13 : decode cX9_joint 13 = .ok (.ireturn, 1) := by decide +kernel
theorem dX9_joint_14 : decode cX9_joint 14 = .ok (.aload_n 0, 1) := by decide +kernel
theorem dX9_joint_15 : decode cX9_joint 15 = .ok (.iload_n 1, 1) := by decide +kernel
theorem dX9_joint_16 : decode cX9_joint 16 = .ok (.invokevirtual 129, 3) := by decide +kernel
theorem dX9_joint_19 : decode cX9_joint 19 = .ok (.iload_n 2, 1) := by decide +kernel
theorem dX9_joint_20 : decode cX9_joint 20 = .ok (.aload_n 0, 1) := by decide +kernel
theorem dX9_joint_21 : decode cX9_joint 21 = .ok (.getfield 111, 3) := by decide +kernel
theorem dX9_joint_24 : decode cX9_joint 24 = .ok (.if_icmp .ge 12, 3) := by decide +kernel
theorem dX9_joint_27 : decode cX9_joint 27 = .ok (.aload_n 0, 1) := by decide +kernel
theorem dX9_joint_28 : decode cX9_joint 28 = .ok (.getfield 37, 3) := by decide +kernel
theorem dX9_joint_31 : decode cX9_joint 31 = .ok (.iload_n 2, 1) := by decide +kernel
theorem dX9_joint_32 : decode cX9_joint 32 = .ok (.iaload, 1) := by decide +kernel
theorem dX9_joint_33 : decode cX9_joint 33 = .ok (.goto 5, 3) := by decide +kernel
theorem dX9_joint_36 : decode cX9_joint 36 = .ok (.bipush (-4), 2) := by decide +kernel
theorem dX9_joint_38 : decode cX9_joint 38 = .ok (.ireturn, 1) := by decide +kernel
set_option maxRecDepth 20000 in
theorem ggX9_slate_X9_isCourse : GoodIn wsX9_slate wsX9_isCourse := goodIn_r _ [5, 6, 7, 8, 4, 9, 18, 19, 20, 21, 22, 23, 24, 25, 26, 27, 28, 29, 30, 31, 32, 33, 34, 35] (by decide +kernel) (by decide +kernel)
set_option maxRecDepth 20000 in
theorem gX9_slate_X9_isCourse : GoodIn wsX9_slate (wsV RX9 170 RX9 yX9_isCourse wsX9_isCourse) := goodIn_app (goodIn_of _ (by decide +kernel)) ggX9_slate_X9_isCourse
set_option maxRecDepth 20000 in
theorem ggX9_slate_X9_in : GoodIn wsX9_slate wsX9_in := goodIn_r _ [9] (by decide +kernel) (by decide +kernel)
set_option maxRecDepth 20000 in
theorem gX9_slate_X9_in : GoodIn wsX9_slate (va_wsS RX9 66 yX9_in wsX9_in) := goodIn_app (goodIn_of _ (by decide +kernel)) ggX9_slate_X9_in
set_option maxRecDepth 20000 in
theorem ggX9_slate_X9_slateCount : GoodIn wsX9_slate wsX9_slateCount := goodIn_r _ [13, 6, 18, 19, 20, 21, 22, 23, 24, 25, 26, 27, 28, 29, 30, 31, 32, 33, 34, 35] (by decide +kernel) (by decide +kernel)
set_option maxRecDepth 20000 in
theorem gX9_slate_X9_slateCount : GoodIn wsX9_slate (wsV RX9 101 RX9 yX9_slateCount wsX9_slateCount) := goodIn_app (goodIn_of _ (by decide +kernel)) ggX9_slate_X9_slateCount
set_option maxRecDepth 20000 in
theorem ggX9_slate_X9_slateOf : GoodIn wsX9_slate wsX9_slateOf := goodIn_r _ [17, 6, 18, 19, 20, 21, 22, 23, 24, 25, 26, 27, 28, 29, 30, 31, 32, 33, 34, 35] (by decide +kernel) (by decide +kernel)
set_option maxRecDepth 20000 in
theorem gX9_slate_X9_slateOf : GoodIn wsX9_slate (wsV RX9 104 RX9 yX9_slateOf wsX9_slateOf) := goodIn_app (goodIn_of _ (by decide +kernel)) ggX9_slate_X9_slateOf
theorem dX9_slate_0 : decode cX9_slate 0 = .ok (.aload_n 0, 1) := by decide +kernel
theorem dX9_slate_1 : decode cX9_slate 1 = .ok (.iload_n 1, 1) := by decide +kernel
theorem dX9_slate_2 : decode cX9_slate 2 = .ok (.invokevirtual 170, 3) := by decide +kernel
theorem dX9_slate_5 : decode cX9_slate 5 = .ok (.ifCond .eq 16, 3) := by decide +kernel
theorem dX9_slate_8 : decode cX9_slate 8 = .ok (.iload_n 2, 1) := by decide +kernel
theorem dX9_slate_9 : decode cX9_slate 9 = .ok (.ifCond .lt 12, 3) := by decide +kernel
theorem dX9_slate_12 : decode cX9_slate 12 = .ok (.iload_n 3, 1) := by decide +kernel
theorem dX9_slate_13 : decode cX9_slate 13 = .ok (.iconst 0, 1) := by decide +kernel
theorem dX9_slate_14 : decode cX9_slate 14 = .ok (.iconst 1, 1) := by decide +kernel
theorem dX9_slate_15 : decode cX9_slate 15 = .ok (.invokestatic 66, 3) := by decide +kernel
theorem dX9_slate_18 : decode cX9_slate 18 = .ok (.ifCond .ne 5, 3) := by decide +kernel
theorem dX9_slate_21 : decode cX9_slate 21 = .ok (.iconst (-1), 1) := by decide +kernel
theorem dX9_slate_22 : decode cX9_slate 22 = .ok (.ireturn, 1) := by decide +kernel
theorem dX9_slate_23 : decode cX9_slate 23 = .ok (.iload_n 2, 1) := by decide +kernel
theorem dX9_slate_24 : decode cX9_slate 24 = .ok (.aload_n 0, 1) := by decide +kernel
theorem dX9_slate_25 : decode cX9_slate 25 = .ok (.iload_n 1, 1) := by decide +kernel
theorem dX9_slate_26 : decode cX9_slate 26 = .ok (.invokevirtual 101, 3) := by decide +kernel
theorem dX9_slate_29 : decode cX9_slate 29 = .ok (.if_icmp .lt 6, 3) := by decide +kernel
theorem dX9_slate_32 : decode cX9_slate 32 = .ok (.bipush (-4), 2) := by decide +kernel
theorem dX9_slate_34 : decode cX9_slate 34 = .ok (.ireturn, 1) := by decide +kernel
theorem dX9_slate_35 : decode cX9_slate 35 = .ok (.iload_n 3, 1) := by decide +kernel
theorem dX9_slate_36 : decode cX9_slate 36 = .ok (.ifCond .ne 15, 3) := by decide +kernel
theorem dX9_slate_39 : decode cX9_slate 39 = .ok (.aload_n 0, 1) := by decide +kernel
theorem dX9_slate_40 : decode cX9_slate 40 = .ok (.iload_n 1, 1) := by decide +kernel
theorem dX9_slate_41 : decode cX9_slate 41 = .ok (.iload_n 2, 1) := by decide +kernel
theorem dX9_slate_42 : decode cX9_slate 42 = .ok (.invokevirtual 104, 3) := by decide +kernel
theorem dX9_slate_45 : decode cX9_slate 45 = .ok (.bipush 64, 2) := by decide +kernel
theorem dX9_slate_47 : decode cX9_slate 47 = .ok (.idiv, 1) := by decide +kernel
theorem dX9_slate_48 : decode cX9_slate 48 = .ok (.goto 12, 3) := by decide +kernel
theorem dX9_slate_51 : decode cX9_slate 51 = .ok (.aload_n 0, 1) := by decide +kernel
theorem dX9_slate_52 : decode cX9_slate 52 = .ok (.iload_n 1, 1) := by decide +kernel
theorem dX9_slate_53 : decode cX9_slate 53 = .ok (.iload_n 2, 1) := by decide +kernel
theorem dX9_slate_54 : decode cX9_slate 54 = .ok (.invokevirtual 104, 3) := by decide +kernel
theorem dX9_slate_57 : decode cX9_slate 57 = .ok (.bipush 64, 2) := by decide +kernel
theorem dX9_slate_59 : decode cX9_slate 59 = .ok (.irem, 1) := by decide +kernel
theorem dX9_slate_60 : decode cX9_slate 60 = .ok (.ireturn, 1) := by decide +kernel
set_option maxRecDepth 20000 in
theorem ggX9_tried_X9_in : GoodIn wsX9_tried wsX9_in := goodIn_r _ [5] (by decide +kernel) (by decide +kernel)
set_option maxRecDepth 20000 in
theorem gX9_tried_X9_in : GoodIn wsX9_tried (va_wsS RX9 66 yX9_in wsX9_in) := goodIn_app (goodIn_of _ (by decide +kernel)) ggX9_tried_X9_in
set_option maxRecDepth 20000 in
theorem ggX9_tried_X9_layCourse : GoodIn wsX9_tried wsX9_layCourse := goodIn_r _ [9, 1, 10, 11, 12, 4, 13, 14, 15, 16, 17, 18, 19, 20, 21, 22, 23, 24, 25, 26, 27, 28, 29, 30, 31, 32, 33, 34, 35, 36, 37, 38, 39, 40, 41, 42, 43, 44, 45, 46, 47, 48, 49, 50, 51, 52, 53, 54, 55, 56, 57, 58, 59, 60, 61, 62, 63, 64, 65, 66, 67, 68, 69, 70, 71, 72, 73, 74, 75, 76, 85, 86, 87, 88, 89, 90, 91, 92, 93, 94, 95, 96, 97, 98, 99, 100, 101, 102] (by decide +kernel) (by decide +kernel)
set_option maxRecDepth 20000 in
theorem gX9_tried_X9_layCourse : GoodIn wsX9_tried (wsV RX9 152 RX9 yX9_layCourse wsX9_layCourse) := goodIn_app (goodIn_of _ (by decide +kernel)) ggX9_tried_X9_layCourse
set_option maxRecDepth 20000 in
theorem ggX9_tried_X9_slateCount : GoodIn wsX9_tried wsX9_slateCount := goodIn_r _ [56, 1, 85, 86, 87, 88, 89, 90, 91, 92, 93, 94, 95, 96, 97, 98, 99, 100, 101, 102] (by decide +kernel) (by decide +kernel)
set_option maxRecDepth 20000 in
theorem gX9_tried_X9_slateCount : GoodIn wsX9_tried (wsV RX9 101 RX9 yX9_slateCount wsX9_slateCount) := goodIn_app (goodIn_of _ (by decide +kernel)) ggX9_tried_X9_slateCount
set_option maxRecDepth 20000 in
theorem ggX9_tried_X9_waste : GoodIn wsX9_tried wsX9_waste := goodIn_r _ [80, 53, 54, 55, 4, 56, 1, 57, 58, 59, 60, 65, 66, 67, 68, 19, 29, 30, 31, 32, 85, 86, 87, 88, 89, 90, 91, 92, 93, 94, 95, 96, 97, 98, 99, 100, 101, 102] (by decide +kernel) (by decide +kernel)
set_option maxRecDepth 20000 in
theorem gX9_tried_X9_waste : GoodIn wsX9_tried (wsV RX9 173 RX9 yX9_waste wsX9_waste) := goodIn_app (goodIn_of _ (by decide +kernel)) ggX9_tried_X9_waste
set_option maxRecDepth 20000 in
theorem ggX9_tried_X9_takeUp : GoodIn wsX9_tried wsX9_takeUp := goodIn_r _ [84, 1, 73, 74, 75, 4, 76, 53, 54, 55, 56, 57, 58, 59, 60, 85, 86, 87, 88, 89, 90, 91, 92, 93, 94, 95, 96, 97, 98, 99, 100, 101, 102] (by decide +kernel) (by decide +kernel)
set_option maxRecDepth 20000 in
theorem gX9_tried_X9_takeUp : GoodIn wsX9_tried (wsV RX9 155 RX9 yX9_takeUp wsX9_takeUp) := goodIn_app (goodIn_of _ (by decide +kernel)) ggX9_tried_X9_takeUp
theorem dX9_tried_0 : decode cX9_tried 0 = .ok (.iload_n 1, 1) := by decide +kernel
theorem dX9_tried_1 : decode cX9_tried 1 = .ok (.bipush 20, 2) := by decide +kernel
theorem dX9_tried_3 : decode cX9_tried 3 = .ok (.bipush 60, 2) := by decide +kernel
theorem dX9_tried_5 : decode cX9_tried 5 = .ok (.invokestatic 66, 3) := by decide +kernel
theorem dX9_tried_8 : decode cX9_tried 8 = .ok (.ifCond .eq 12, 3) := by decide +kernel
theorem dX9_tried_11 : decode cX9_tried 11 = .ok (.iload_n 2, 1) := by decide +kernel
theorem dX9_tried_12 : decode cX9_tried 12 = .ok (.iconst 0, 1) := by decide +kernel
theorem dX9_tried_13 : decode cX9_tried 13 = .ok (.iconst 1, 1) := by decide +kernel
theorem dX9_tried_14 : decode cX9_tried 14 = .ok (.invokestatic 66, 3) := by decide +kernel
theorem dX9_tried_17 : decode cX9_tried 17 = .ok (.ifCond .ne 5, 3) := by decide +kernel
theorem dX9_tried_20 : decode cX9_tried 20 = .ok (.iconst (-1), 1) := by decide +kernel
theorem dX9_tried_21 : decode cX9_tried 21 = .ok (.ireturn, 1) := by decide +kernel
theorem dX9_tried_22 : decode cX9_tried 22 = .ok (.aload_n 0, 1) := by decide +kernel
theorem dX9_tried_23 : decode cX9_tried 23 = .ok (.iload_n 1, 1) := by decide +kernel
theorem dX9_tried_24 : decode cX9_tried 24 = .ok (.invokevirtual 152, 3) := by decide +kernel
theorem dX9_tried_27 : decode cX9_tried 27 = .ok (.ifCond .ne 6, 3) := by decide +kernel
theorem dX9_tried_30 : decode cX9_tried 30 = .ok (.bipush (-2), 2) := by decide +kernel
theorem dX9_tried_32 : decode cX9_tried 32 = .ok (.ireturn, 1) := by decide +kernel
theorem dX9_tried_33 : decode cX9_tried 33 = .ok (.aload_n 0, 1) := by decide +kernel
theorem dX9_tried_34 : decode cX9_tried 34 = .ok (.getfield 25, 3) := by decide +kernel
theorem dX9_tried_37 : decode cX9_tried 37 = .ok (.bipush 8, 2) := by decide +kernel
theorem dX9_tried_39 : decode cX9_tried 39 = .ok (.iaload, 1) := by decide +kernel
theorem dX9_tried_40 : decode cX9_tried 40 = .ok (.iconst 1, 1) := by decide +kernel
theorem dX9_tried_41 : decode cX9_tried 41 = .ok (.isub, 1) := by decide +kernel
theorem dX9_tried_42 : decode cX9_tried 42 = .ok (.istore_n 3, 1) := by decide +kernel
theorem dX9_tried_43 : decode cX9_tried 43 = .ok (.iload_n 2, 1) := by decide +kernel
theorem dX9_tried_44 : decode cX9_tried 44 = .ok (.ifCond .ne 11, 3) := by decide +kernel
theorem dX9_tried_47 : decode cX9_tried 47 = .ok (.aload_n 0, 1) := by decide +kernel
theorem dX9_tried_48 : decode cX9_tried 48 = .ok (.iload_n 3, 1) := by decide +kernel
theorem dX9_tried_49 : decode cX9_tried 49 = .ok (.invokevirtual 101, 3) := by decide +kernel
theorem dX9_tried_52 : decode cX9_tried 52 = .ok (.goto 8, 3) := by decide +kernel
theorem dX9_tried_55 : decode cX9_tried 55 = .ok (.aload_n 0, 1) := by decide +kernel
theorem dX9_tried_56 : decode cX9_tried 56 = .ok (.iload_n 3, 1) := by decide +kernel
theorem dX9_tried_57 : decode cX9_tried 57 = .ok (.invokevirtual 173, 3) := by decide +kernel
theorem dX9_tried_60 : decode cX9_tried 60 = .ok (.istore 4, 2) := by decide +kernel
theorem dX9_tried_62 : decode cX9_tried 62 = .ok (.aload_n 0, 1) := by decide +kernel
theorem dX9_tried_63 : decode cX9_tried 63 = .ok (.invokevirtual 155, 3) := by decide +kernel
theorem dX9_tried_66 : decode cX9_tried 66 = .ok (.iload 4, 2) := by decide +kernel
theorem dX9_tried_68 : decode cX9_tried 68 = .ok (.ireturn, 1) := by decide +kernel
set_option maxRecDepth 20000 in
theorem ggX9_nextLength_X9_heapLength : GoodIn wsX9_nextLength wsX9_heapLength := goodIn_r _ [7, 8, 82, 83, 84, 85, 86, 87, 88, 89, 90, 91, 92, 93, 94, 95, 96, 97, 98, 99] (by decide +kernel) (by decide +kernel)
set_option maxRecDepth 20000 in
theorem gX9_nextLength_X9_heapLength : GoodIn wsX9_nextLength (wsV RX9 114 RX9 yX9_heapLength wsX9_heapLength) := goodIn_app (goodIn_of _ (by decide +kernel)) ggX9_nextLength_X9_heapLength
set_option maxRecDepth 20000 in
theorem ggX9_nextLength_X9_layCourse : GoodIn wsX9_nextLength wsX9_layCourse := goodIn_r _ [12, 2, 13, 14, 15, 6, 16, 1, 3, 4, 5, 7, 8, 17, 18, 19, 20, 21, 22, 23, 24, 25, 26, 27, 28, 29, 30, 31, 32, 33, 34, 35, 36, 37, 38, 39, 40, 41, 42, 43, 44, 45, 46, 47, 48, 49, 50, 51, 52, 53, 54, 55, 56, 57, 58, 59, 60, 61, 62, 63, 64, 65, 66, 67, 68, 69, 70, 71, 72, 73, 82, 83, 84, 85, 86, 87, 88, 89, 90, 91, 92, 93, 94, 95, 96, 97, 98, 99] (by decide +kernel) (by decide +kernel)
set_option maxRecDepth 20000 in
theorem gX9_nextLength_X9_layCourse : GoodIn wsX9_nextLength (wsV RX9 152 RX9 yX9_layCourse wsX9_layCourse) := goodIn_app (goodIn_of _ (by decide +kernel)) ggX9_nextLength_X9_layCourse
set_option maxRecDepth 20000 in
theorem ggX9_nextLength_X9_waste : GoodIn wsX9_nextLength wsX9_waste := goodIn_r _ [77, 50, 51, 52, 6, 53, 2, 54, 55, 56, 57, 62, 63, 64, 65, 8, 26, 27, 28, 29, 82, 83, 84, 85, 86, 87, 88, 89, 90, 91, 92, 93, 94, 95, 96, 97, 98, 99] (by decide +kernel) (by decide +kernel)
set_option maxRecDepth 20000 in
theorem gX9_nextLength_X9_waste : GoodIn wsX9_nextLength (wsV RX9 173 RX9 yX9_waste wsX9_waste) := goodIn_app (goodIn_of _ (by decide +kernel)) ggX9_nextLength_X9_waste
set_option maxRecDepth 20000 in
theorem ggX9_nextLength_X9_gauge : GoodIn wsX9_nextLength wsX9_gauge := goodIn_r _ [33, 21, 82, 83, 84, 85, 86, 87, 88, 89, 90, 91, 92, 93, 94, 95, 96, 97, 98, 99] (by decide +kernel) (by decide +kernel)
set_option maxRecDepth 20000 in
theorem gX9_nextLength_X9_gauge : GoodIn wsX9_nextLength (wsV RX9 95 RX9 yX9_gauge wsX9_gauge) := goodIn_app (goodIn_of _ (by decide +kernel)) ggX9_nextLength_X9_gauge
set_option maxRecDepth 20000 in
theorem ggX9_nextLength_X9_takeUp : GoodIn wsX9_nextLength wsX9_takeUp := goodIn_r _ [81, 2, 70, 71, 72, 6, 73, 50, 51, 52, 53, 54, 55, 56, 57, 82, 83, 84, 85, 86, 87, 88, 89, 90, 91, 92, 93, 94, 95, 96, 97, 98, 99] (by decide +kernel) (by decide +kernel)
set_option maxRecDepth 20000 in
theorem gX9_nextLength_X9_takeUp : GoodIn wsX9_nextLength (wsV RX9 155 RX9 yX9_takeUp wsX9_takeUp) := goodIn_app (goodIn_of _ (by decide +kernel)) ggX9_nextLength_X9_takeUp
theorem dX9_nextLength_0 : decode cX9_nextLength 0 = .ok (.bipush (-4), 2) := by decide +kernel
theorem dX9_nextLength_2 : decode cX9_nextLength 2 = .ok (.istore_n 2, 1) := by decide +kernel
theorem dX9_nextLength_3 : decode cX9_nextLength 3 = .ok (.iconst 0, 1) := by decide +kernel
theorem dX9_nextLength_4 : decode cX9_nextLength 4 = .ok (.istore_n 3, 1) := by decide +kernel
theorem dX9_nextLength_5 : decode cX9_nextLength 5 = .ok (.iconst 0, 1) := by decide +kernel
theorem dX9_nextLength_6 : decode cX9_nextLength 6 = .ok (.istore 4, 2) := by decide +kernel
theorem dX9_nextLength_8 : decode cX9_nextLength 8 = .ok (.iload 4, 2) := by decide +kernel
theorem dX9_nextLength_10 : decode cX9_nextLength 10 = .ok (.aload_n 0, 1) := by decide +kernel
theorem dX9_nextLength_11 : decode cX9_nextLength 11 = .ok (.getfield 54, 3) := by decide +kernel
theorem dX9_nextLength_14 : decode cX9_nextLength 14 = .ok (.if_icmp .ge 123, 3) := by decide +kernel
theorem dX9_nextLength_17 : decode cX9_nextLength 17 = .ok (.aload_n 0, 1) := by decide +kernel
theorem dX9_nextLength_18 : decode cX9_nextLength 18 = .ok (.iload 4, 2) := by decide +kernel
theorem dX9_nextLength_20 : decode cX9_nextLength 20 = .ok (.invokevirtual 114, 3) := by decide +kernel
theorem dX9_nextLength_23 : decode cX9_nextLength 23 = .ok (.istore 5, 2) := by decide +kernel
theorem dX9_nextLength_25 : decode cX9_nextLength 25 = .ok (.iload 4, 2) := by decide +kernel
theorem dX9_nextLength_27 : decode cX9_nextLength 27 = .ok (.ifCond .eq 16, 3) := by decide +kernel
theorem dX9_nextLength_30 : decode cX9_nextLength 30 = .ok (.iload 5, 2) := by decide +kernel
theorem dX9_nextLength_32 : decode cX9_nextLength 32 = .ok (.aload_n 0, 1) := by decide +kernel
theorem dX9_nextLength_33 : decode cX9_nextLength 33 = .ok (.iload 4, 2) := by decide +kernel
theorem dX9_nextLength_35 : decode cX9_nextLength 35 = .ok (.iconst 1, 1) := by decide +kernel
theorem dX9_nextLength_36 : decode cX9_nextLength 36 = .ok (.isub, 1) := by decide +kernel
theorem dX9_nextLength_37 : decode cX9_nextLength 37 = .ok (.invokevirtual 114, 3) := by decide +kernel
theorem dX9_nextLength_40 : decode cX9_nextLength 40 = .ok (.if_icmp .eq 91, 3) := by decide +kernel
theorem dX9_nextLength_43 : decode cX9_nextLength 43 = .ok (.aload_n 0, 1) := by decide +kernel
theorem dX9_nextLength_44 : decode cX9_nextLength 44 = .ok (.iload 5, 2) := by decide +kernel
theorem dX9_nextLength_46 : decode cX9_nextLength 46 = .ok (.invokevirtual 152, 3) := by decide +kernel
theorem dX9_nextLength_49 : decode cX9_nextLength 49 = .ok (.ifCond .eq 82, 3) := by decide +kernel
theorem dX9_nextLength_52 : decode cX9_nextLength 52 = .ok (.aload_n 0, 1) := by decide +kernel
theorem dX9_nextLength_53 : decode cX9_nextLength 53 = .ok (.aload_n 0, 1) := by decide +kernel
theorem dX9_nextLength_54 : decode cX9_nextLength 54 = .ok (.getfield 25, 3) := by decide +kernel
theorem dX9_nextLength_57 : decode cX9_nextLength 57 = .ok (.bipush 8, 2) := by decide +kernel
theorem dX9_nextLength_59 : decode cX9_nextLength 59 = .ok (.iaload, 1) := by decide +kernel
theorem dX9_nextLength_60 : decode cX9_nextLength 60 = .ok (.iconst 1, 1) := by decide +kernel
theorem dX9_nextLength_61 : decode cX9_nextLength 61 = .ok (.isub, 1) := by decide +kernel
theorem dX9_nextLength_62 : decode cX9_nextLength 62 = .ok (.invokevirtual 173, 3) := by decide +kernel
theorem dX9_nextLength_65 : decode cX9_nextLength 65 = .ok (.istore 6, 2) := by decide +kernel
theorem dX9_nextLength_67 : decode cX9_nextLength 67 = .ok (.iload_n 2, 1) := by decide +kernel
theorem dX9_nextLength_68 : decode cX9_nextLength 68 = .ok (.bipush (-4), 2) := by decide +kernel
theorem dX9_nextLength_70 : decode cX9_nextLength 70 = .ok (.if_icmp .eq 26, 3) := by decide +kernel
theorem dX9_nextLength_73 : decode cX9_nextLength 73 = .ok (.iload_n 1, 1) := by decide +kernel
theorem dX9_nextLength_74 : decode cX9_nextLength 74 = .ok (.ifCond .ne 26, 3) := by decide +kernel
theorem dX9_nextLength_77 : decode cX9_nextLength 77 = .ok (.iload 6, 2) := by decide +kernel
theorem dX9_nextLength_79 : decode cX9_nextLength 79 = .ok (.aload_n 0, 1) := by decide +kernel
theorem dX9_nextLength_80 : decode cX9_nextLength 80 = .ok (.iload_n 2, 1) := by decide +kernel
theorem dX9_nextLength_81 : decode cX9_nextLength 81 = .ok (.invokevirtual 95, 3) := by decide +kernel
theorem dX9_nextLength_84 : decode cX9_nextLength 84 = .ok (.imul, 1) := by decide +kernel
theorem dX9_nextLength_85 : decode cX9_nextLength 85 = .ok (.iload_n 3, 1) := by decide +kernel
theorem dX9_nextLength_86 : decode cX9_nextLength 86 = .ok (.aload_n 0, 1) := by decide +kernel
theorem dX9_nextLength_87 : decode cX9_nextLength 87 = .ok (.iload 5, 2) := by decide +kernel
theorem dX9_nextLength_89 : decode cX9_nextLength 89 = .ok (.invokevirtual 95, 3) := by decide +kernel
theorem dX9_nextLength_92 : decode cX9_nextLength 92 = .ok (.imul, 1) := by decide +kernel
theorem dX9_nextLength_93 : decode cX9_nextLength 93 = .ok (.if_icmp .ge 7, 3) := by decide +kernel
theorem dX9_nextLength_96 : decode cX9_nextLength 96 = .ok (.iconst 1, 1) := by decide +kernel
theorem dX9_nextLength_97 : decode cX9_nextLength 97 = .ok (.goto 4, 3) := by decide +kernel
theorem dX9_nextLength_100 : decode cX9_nextLength 100 = .ok (.iconst 0, 1) := by decide +kernel
theorem dX9_nextLength_101 : decode cX9_nextLength 101 = .ok (.istore 7, 2) := by decide +kernel
theorem dX9_nextLength_103 : decode cX9_nextLength 103 = .ok (.iload 7, 2) := by decide +kernel
theorem dX9_nextLength_105 : decode cX9_nextLength 105 = .ok (.ifCond .eq 8, 3) := by decide +kernel
theorem dX9_nextLength_108 : decode cX9_nextLength 108 = .ok (.iload 5, 2) := by decide +kernel
theorem dX9_nextLength_110 : decode cX9_nextLength 110 = .ok (.goto 4, 3) := by decide +kernel
theorem dX9_nextLength_113 : decode cX9_nextLength 113 = .ok (.iload_n 2, 1) := by decide +kernel
theorem dX9_nextLength_114 : decode cX9_nextLength 114 = .ok (.istore_n 2, 1) := by decide +kernel
theorem dX9_nextLength_115 : decode cX9_nextLength 115 = .ok (.iload 7, 2) := by decide +kernel
theorem dX9_nextLength_117 : decode cX9_nextLength 117 = .ok (.ifCond .eq 8, 3) := by decide +kernel
theorem dX9_nextLength_120 : decode cX9_nextLength 120 = .ok (.iload 6, 2) := by decide +kernel
theorem dX9_nextLength_122 : decode cX9_nextLength 122 = .ok (.goto 4, 3) := by decide +kernel
theorem dX9_nextLength_125 : decode cX9_nextLength 125 = .ok (.iload_n 3, 1) := by decide +kernel
theorem dX9_nextLength_126 : decode cX9_nextLength 126 = .ok (.istore_n 3, 1) := by decide +kernel
theorem dX9_nextLength_127 : decode cX9_nextLength 127 = .ok (.aload_n 0, 1) := by decide +kernel
theorem dX9_nextLength_128 : decode cX9_nextLength 128 = .ok (.invokevirtual 155, 3) := by decide +kernel
theorem dX9_nextLength_131 : decode cX9_nextLength 131 = .ok (.iinc 4 1, 3) := by decide +kernel
theorem dX9_nextLength_134 : decode cX9_nextLength 134 = .ok (.goto (-126), 3) := by decide +kernel
theorem dX9_nextLength_137 : decode cX9_nextLength 137 = .ok (.iload_n 2, 1) := by decide +kernel
theorem dX9_nextLength_138 : decode cX9_nextLength 138 = .ok (.ireturn, 1) := by decide +kernel
set_option maxRecDepth 20000 in
theorem ggX9_next_X9_in : GoodIn wsX9_next wsX9_in := goodIn_r _ [4] (by decide +kernel) (by decide +kernel)
set_option maxRecDepth 20000 in
theorem gX9_next_X9_in : GoodIn wsX9_next (va_wsS RX9 66 yX9_in wsX9_in) := goodIn_app (goodIn_of _ (by decide +kernel)) ggX9_next_X9_in
set_option maxRecDepth 20000 in
theorem ggX9_next_X9_nextLength : GoodIn wsX9_next wsX9_nextLength := goodIn_r _ [8, 9, 10, 11, 12, 13, 3, 14, 15, 16, 17, 18, 19, 20, 21, 22, 23, 24, 25, 26, 27, 28, 29, 30, 31, 32, 33, 34, 35, 36, 37, 38, 39, 40, 41, 42, 43, 44, 45, 46, 47, 48, 49, 50, 51, 52, 53, 54, 55, 56, 57, 58, 59, 60, 61, 62, 63, 64, 65, 66, 67, 68, 69, 70, 71, 72, 73, 74, 75, 76, 77, 78, 79, 80, 81, 82, 83, 84, 85, 86, 87, 88, 89, 90, 91, 92, 93, 94, 95, 96, 97, 98, 99, 100, 101, 102, 103, 104, 105, 106] (by decide +kernel) (by decide +kernel)
set_option maxRecDepth 20000 in
theorem gX9_next_X9_nextLength : GoodIn wsX9_next (wsV RX9 182 RX9 yX9_nextLength wsX9_nextLength) := goodIn_app (goodIn_of _ (by decide +kernel)) ggX9_next_X9_nextLength
theorem dX9_next_0 : decode cX9_next 0 = .ok (.iload_n 1, 1) := by decide +kernel
theorem dX9_next_1 : decode cX9_next 1 = .ok (.iconst 0, 1) := by decide +kernel
theorem dX9_next_2 : decode cX9_next 2 = .ok (.iconst 1, 1) := by decide +kernel
theorem dX9_next_3 : decode cX9_next 3 = .ok (.invokestatic 66, 3) := by decide +kernel
theorem dX9_next_6 : decode cX9_next 6 = .ok (.ifCond .eq 11, 3) := by decide +kernel
theorem dX9_next_9 : decode cX9_next 9 = .ok (.aload_n 0, 1) := by decide +kernel
theorem dX9_next_10 : decode cX9_next 10 = .ok (.iload_n 1, 1) := by decide +kernel
theorem dX9_next_11 : decode cX9_next 11 = .ok (.invokevirtual 182, 3) := by decide +kernel
theorem dX9_next_14 : decode cX9_next 14 = .ok (.goto 4, 3) := by decide +kernel
theorem dX9_next_17 : decode cX9_next 17 = .ok (.iconst (-1), 1) := by decide +kernel
theorem dX9_next_18 : decode cX9_next 18 = .ok (.ireturn, 1) := by decide +kernel
set_option maxRecDepth 20000 in
theorem ggX9_itself_X9_in : GoodIn wsX9_itself wsX9_in := goodIn_r _ [6] (by decide +kernel) (by decide +kernel)
set_option maxRecDepth 20000 in
theorem gX9_itself_X9_in : GoodIn wsX9_itself (va_wsS RX9 66 yX9_in wsX9_in) := goodIn_app (goodIn_of _ (by decide +kernel)) ggX9_itself_X9_in
set_option maxRecDepth 20000 in
theorem ggX9_itself_X9_copyState : GoodIn wsX9_itself wsX9_copyState := goodIn_r _ [9] (by decide +kernel) (by decide +kernel)
set_option maxRecDepth 20000 in
theorem gX9_itself_X9_copyState : GoodIn wsX9_itself (va_wsS RX9 148 yX9_copyState wsX9_copyState) := goodIn_app (goodIn_of _ (by decide +kernel)) ggX9_itself_X9_copyState
set_option maxRecDepth 20000 in
theorem ggX9_itself_X9_nextLength : GoodIn wsX9_itself wsX9_nextLength := goodIn_r _ [13, 14, 1, 15, 16, 17, 5, 18, 19, 20, 21, 22, 23, 24, 25, 26, 27, 28, 29, 30, 31, 32, 33, 34, 35, 36, 37, 38, 39, 40, 41, 42, 43, 44, 45, 46, 47, 48, 49, 50, 51, 52, 53, 54, 55, 56, 57, 58, 59, 60, 61, 62, 63, 64, 65, 66, 67, 68, 69, 70, 71, 72, 73, 74, 75, 76, 77, 78, 79, 80, 81, 82, 83, 84, 85, 86, 87, 88, 89, 90, 91, 92, 93, 94, 95, 96, 97, 98, 99, 100, 101, 102, 103, 104, 105, 106, 107, 108, 109, 110] (by decide +kernel) (by decide +kernel)
set_option maxRecDepth 20000 in
theorem gX9_itself_X9_nextLength : GoodIn wsX9_itself (wsV RX9 182 RX9 yX9_nextLength wsX9_nextLength) := goodIn_app (goodIn_of _ (by decide +kernel)) ggX9_itself_X9_nextLength
set_option maxRecDepth 20000 in
theorem ggX9_itself_X9_layCourse : GoodIn wsX9_itself wsX9_layCourse := goodIn_r _ [23, 1, 24, 25, 26, 5, 27, 14, 15, 16, 17, 18, 19, 28, 29, 30, 31, 32, 33, 34, 35, 36, 37, 38, 39, 40, 41, 42, 43, 44, 45, 46, 47, 48, 49, 50, 51, 52, 53, 54, 55, 56, 57, 58, 59, 60, 61, 62, 63, 64, 65, 66, 67, 68, 69, 70, 71, 72, 73, 74, 75, 76, 77, 78, 79, 80, 81, 82, 83, 84, 93, 94, 95, 96, 97, 98, 99, 100, 101, 102, 103, 104, 105, 106, 107, 108, 109, 110] (by decide +kernel) (by decide +kernel)
set_option maxRecDepth 20000 in
theorem gX9_itself_X9_layCourse : GoodIn wsX9_itself (wsV RX9 152 RX9 yX9_layCourse wsX9_layCourse) := goodIn_app (goodIn_of _ (by decide +kernel)) ggX9_itself_X9_layCourse
set_option maxRecDepth 20000 in
theorem ggX9_itself_X9_waste : GoodIn wsX9_itself wsX9_waste := goodIn_r _ [88, 61, 62, 63, 5, 64, 1, 65, 66, 67, 68, 73, 74, 75, 76, 19, 37, 38, 39, 40, 93, 94, 95, 96, 97, 98, 99, 100, 101, 102, 103, 104, 105, 106, 107, 108, 109, 110] (by decide +kernel) (by decide +kernel)
set_option maxRecDepth 20000 in
theorem gX9_itself_X9_waste : GoodIn wsX9_itself (wsV RX9 173 RX9 yX9_waste wsX9_waste) := goodIn_app (goodIn_of _ (by decide +kernel)) ggX9_itself_X9_waste
set_option maxRecDepth 20000 in
theorem ggX9_itself_X9_isReady : GoodIn wsX9_itself wsX9_isReady := goodIn_r _ [31, 1, 32, 33, 34, 35, 5, 36, 37, 38, 39, 40, 41, 42, 43, 44, 93, 94, 95, 96, 97, 98, 99, 100, 101, 102, 103, 104, 105, 106, 107, 108, 109, 110] (by decide +kernel) (by decide +kernel)
set_option maxRecDepth 20000 in
theorem gX9_itself_X9_isReady : GoodIn wsX9_itself (wsV RX9 136 RX9 yX9_isReady wsX9_isReady) := goodIn_app (goodIn_of _ (by decide +kernel)) ggX9_itself_X9_isReady
theorem dX9_itself_0 : decode cX9_itself 0 = .ok (.iload_n 1, 1) := by decide +kernel
theorem dX9_itself_1 : decode cX9_itself 1 = .ok (.iconst 0, 1) := by decide +kernel
theorem dX9_itself_2 : decode cX9_itself 2 = .ok (.iconst 1, 1) := by decide +kernel
theorem dX9_itself_3 : decode cX9_itself 3 = .ok (.invokestatic 66, 3) := by decide +kernel
theorem dX9_itself_6 : decode cX9_itself 6 = .ok (.ifCond .eq 12, 3) := by decide +kernel
theorem dX9_itself_9 : decode cX9_itself 9 = .ok (.iload_n 2, 1) := by decide +kernel
theorem dX9_itself_10 : decode cX9_itself 10 = .ok (.iconst 0, 1) := by decide +kernel
theorem dX9_itself_11 : decode cX9_itself 11 = .ok (.iconst 2, 1) := by decide +kernel
theorem dX9_itself_12 : decode cX9_itself 12 = .ok (.invokestatic 66, 3) := by decide +kernel
theorem dX9_itself_15 : decode cX9_itself 15 = .ok (.ifCond .ne 5, 3) := by decide +kernel
theorem dX9_itself_18 : decode cX9_itself 18 = .ok (.iconst (-1), 1) := by decide +kernel
theorem dX9_itself_19 : decode cX9_itself 19 = .ok (.ireturn, 1) := by decide +kernel
theorem dX9_itself_20 : decode cX9_itself 20 = .ok (.aload_n 0, 1) := by decide +kernel
theorem dX9_itself_21 : decode cX9_itself 21 = .ok (.getfield 25, 3) := by decide +kernel
theorem dX9_itself_24 : decode cX9_itself 24 = .ok (.iconst 0, 1) := by decide +kernel
theorem dX9_itself_25 : decode cX9_itself 25 = .ok (.aload_n 0, 1) := by decide +kernel
theorem dX9_itself_26 : decode cX9_itself 26 = .ok (.getfield 28, 3) := by decide +kernel
theorem dX9_itself_29 : decode cX9_itself 29 = .ok (.iconst 0, 1) := by decide +kernel
theorem dX9_itself_30 : decode cX9_itself 30 = .ok (.invokestatic 148, 3) := by decide +kernel
theorem dX9_itself_33 : decode cX9_itself 33 = .ok (.aload_n 0, 1) := by decide +kernel
theorem dX9_itself_34 : decode cX9_itself 34 = .ok (.getfield 25, 3) := by decide +kernel
theorem dX9_itself_37 : decode cX9_itself 37 = .ok (.bipush 8, 2) := by decide +kernel
theorem dX9_itself_39 : decode cX9_itself 39 = .ok (.iaload, 1) := by decide +kernel
theorem dX9_itself_40 : decode cX9_itself 40 = .ok (.istore_n 3, 1) := by decide +kernel
theorem dX9_itself_41 : decode cX9_itself 41 = .ok (.iconst 0, 1) := by decide +kernel
theorem dX9_itself_42 : decode cX9_itself 42 = .ok (.istore 4, 2) := by decide +kernel
theorem dX9_itself_44 : decode cX9_itself 44 = .ok (.aload_n 0, 1) := by decide +kernel
theorem dX9_itself_45 : decode cX9_itself 45 = .ok (.iload_n 1, 1) := by decide +kernel
theorem dX9_itself_46 : decode cX9_itself 46 = .ok (.invokevirtual 182, 3) := by decide +kernel
theorem dX9_itself_49 : decode cX9_itself 49 = .ok (.istore 5, 2) := by decide +kernel
theorem dX9_itself_51 : decode cX9_itself 51 = .ok (.iload 5, 2) := by decide +kernel
theorem dX9_itself_53 : decode cX9_itself 53 = .ok (.bipush (-4), 2) := by decide +kernel
theorem dX9_itself_55 : decode cX9_itself 55 = .ok (.if_icmp .eq 39, 3) := by decide +kernel
theorem dX9_itself_58 : decode cX9_itself 58 = .ok (.aload_n 0, 1) := by decide +kernel
theorem dX9_itself_59 : decode cX9_itself 59 = .ok (.iload 5, 2) := by decide +kernel
theorem dX9_itself_61 : decode cX9_itself 61 = .ok (.invokevirtual 152, 3) := by decide +kernel
theorem dX9_itself_64 : decode cX9_itself 64 = .ok (.istore 6, 2) := by decide +kernel
theorem dX9_itself_66 : decode cX9_itself 66 = .ok (.iload 4, 2) := by decide +kernel
theorem dX9_itself_68 : decode cX9_itself 68 = .ok (.aload_n 0, 1) := by decide +kernel
theorem dX9_itself_69 : decode cX9_itself 69 = .ok (.aload_n 0, 1) := by decide +kernel
theorem dX9_itself_70 : decode cX9_itself 70 = .ok (.getfield 25, 3) := by decide +kernel
theorem dX9_itself_73 : decode cX9_itself 73 = .ok (.bipush 8, 2) := by decide +kernel
theorem dX9_itself_75 : decode cX9_itself 75 = .ok (.iaload, 1) := by decide +kernel
theorem dX9_itself_76 : decode cX9_itself 76 = .ok (.iconst 1, 1) := by decide +kernel
theorem dX9_itself_77 : decode cX9_itself 77 = .ok (.isub, 1) := by decide +kernel
theorem dX9_itself_78 : decode cX9_itself 78 = .ok (.invokevirtual 173, 3) := by decide +kernel
theorem dX9_itself_81 : decode cX9_itself 81 = .ok (.iadd, 1) := by decide +kernel
theorem dX9_itself_82 : decode cX9_itself 82 = .ok (.istore 4, 2) := by decide +kernel
theorem dX9_itself_84 : decode cX9_itself 84 = .ok (.aload_n 0, 1) := by decide +kernel
theorem dX9_itself_85 : decode cX9_itself 85 = .ok (.iload_n 1, 1) := by decide +kernel
theorem dX9_itself_86 : decode cX9_itself 86 = .ok (.invokevirtual 182, 3) := by decide +kernel
theorem dX9_itself_89 : decode cX9_itself 89 = .ok (.istore 5, 2) := by decide +kernel
theorem dX9_itself_91 : decode cX9_itself 91 = .ok (.goto (-40), 3) := by decide +kernel
theorem dX9_itself_94 : decode cX9_itself 94 = .ok (.iload_n 2, 1) := by decide +kernel
theorem dX9_itself_95 : decode cX9_itself 95 = .ok (.ifCond .ne 15, 3) := by decide +kernel
theorem dX9_itself_98 : decode cX9_itself 98 = .ok (.aload_n 0, 1) := by decide +kernel
theorem dX9_itself_99 : decode cX9_itself 99 = .ok (.getfield 25, 3) := by decide +kernel
theorem dX9_itself_102 : decode cX9_itself 102 = .ok (.bipush 8, 2) := by decide +kernel
theorem dX9_itself_104 : decode cX9_itself 104 = .ok (.iaload, 1) := by decide +kernel
theorem dX9_itself_105 : decode cX9_itself 105 = .ok (.iload_n 3, 1) := by decide +kernel
theorem dX9_itself_106 : decode cX9_itself 106 = .ok (.isub, 1) := by decide +kernel
theorem dX9_itself_107 : decode cX9_itself 107 = .ok (.goto 25, 3) := by decide +kernel
theorem dX9_itself_110 : decode cX9_itself 110 = .ok (.iload_n 2, 1) := by decide +kernel
theorem dX9_itself_111 : decode cX9_itself 111 = .ok (.iconst 1, 1) := by decide +kernel
theorem dX9_itself_112 : decode cX9_itself 112 = .ok (.if_icmp .ne 8, 3) := by decide +kernel
theorem dX9_itself_115 : decode cX9_itself 115 = .ok (.iload 4, 2) := by decide +kernel
theorem dX9_itself_117 : decode cX9_itself 117 = .ok (.goto 15, 3) := by decide +kernel
theorem dX9_itself_120 : decode cX9_itself 120 = .ok (.aload_n 0, 1) := by decide +kernel
theorem dX9_itself_121 : decode cX9_itself 121 = .ok (.invokevirtual 136, 3) := by decide +kernel
theorem dX9_itself_124 : decode cX9_itself 124 = .ok (.ifCond .eq 7, 3) := by decide +kernel
theorem dX9_itself_127 : decode cX9_itself 127 = .ok (.iconst 1, 1) := by decide +kernel
theorem dX9_itself_128 : decode cX9_itself 128 = .ok (.goto 4, 3) := by decide +kernel
theorem dX9_itself_131 : decode cX9_itself 131 = .ok (.iconst 0, 1) := by decide +kernel
theorem dX9_itself_132 : decode cX9_itself 132 = .ok (.istore 6, 2) := by decide +kernel
theorem dX9_itself_134 : decode cX9_itself 134 = .ok (.aload_n 0, 1) := by decide +kernel
theorem dX9_itself_135 : decode cX9_itself 135 = .ok (.getfield 28, 3) := by decide +kernel
theorem dX9_itself_138 : decode cX9_itself 138 = .ok (.iconst 0, 1) := by decide +kernel
theorem dX9_itself_139 : decode cX9_itself 139 = .ok (.aload_n 0, 1) := by decide +kernel
theorem dX9_itself_140 : decode cX9_itself 140 = .ok (.getfield 25, 3) := by decide +kernel
theorem dX9_itself_143 : decode cX9_itself 143 = .ok (.iconst 0, 1) := by decide +kernel
theorem dX9_itself_144 : decode cX9_itself 144 = .ok (.invokestatic 148, 3) := by decide +kernel
theorem dX9_itself_147 : decode cX9_itself 147 = .ok (.iload 6, 2) := by decide +kernel
theorem dX9_itself_149 : decode cX9_itself 149 = .ok (.ireturn, 1) := by decide +kernel
set_option maxRecDepth 20000 in
theorem ggX9_sumOf_X9_waste : GoodIn wsX9_sumOf wsX9_waste := goodIn_r _ [7, 8, 9, 10, 6, 11, 1, 12, 13, 14, 15, 16, 17, 18, 19, 20, 21, 22, 23, 24, 25, 26, 27, 28, 29, 30, 31, 32, 33, 34, 35, 36, 37, 38, 39, 40, 41, 42] (by decide +kernel) (by decide +kernel)
set_option maxRecDepth 20000 in
theorem gX9_sumOf_X9_waste : GoodIn wsX9_sumOf (wsV RX9 173 RX9 yX9_waste wsX9_waste) := goodIn_app (goodIn_of _ (by decide +kernel)) ggX9_sumOf_X9_waste
theorem dX9_sumOf_0 : decode cX9_sumOf 0 = .ok (.iconst 0, 1) := by decide +kernel
theorem dX9_sumOf_1 : decode cX9_sumOf 1 = .ok (.istore_n 2, 1) := by decide +kernel
theorem dX9_sumOf_2 : decode cX9_sumOf 2 = .ok (.iconst 0, 1) := by decide +kernel
theorem dX9_sumOf_3 : decode cX9_sumOf 3 = .ok (.istore_n 3, 1) := by decide +kernel
theorem dX9_sumOf_4 : decode cX9_sumOf 4 = .ok (.iload_n 3, 1) := by decide +kernel
theorem dX9_sumOf_5 : decode cX9_sumOf 5 = .ok (.aload_n 0, 1) := by decide +kernel
theorem dX9_sumOf_6 : decode cX9_sumOf 6 = .ok (.getfield 25, 3) := by decide +kernel
theorem dX9_sumOf_9 : decode cX9_sumOf 9 = .ok (.bipush 8, 2) := by decide +kernel
theorem dX9_sumOf_11 : decode cX9_sumOf 11 = .ok (.iaload, 1) := by decide +kernel
theorem dX9_sumOf_12 : decode cX9_sumOf 12 = .ok (.if_icmp .ge 23, 3) := by decide +kernel
theorem dX9_sumOf_15 : decode cX9_sumOf 15 = .ok (.iload_n 1, 1) := by decide +kernel
theorem dX9_sumOf_16 : decode cX9_sumOf 16 = .ok (.bipush 9, 2) := by decide +kernel
theorem dX9_sumOf_18 : decode cX9_sumOf 18 = .ok (.if_icmp .ne 17, 3) := by decide +kernel
theorem dX9_sumOf_21 : decode cX9_sumOf 21 = .ok (.iload_n 2, 1) := by decide +kernel
theorem dX9_sumOf_22 : decode cX9_sumOf 22 = .ok (.aload_n 0, 1) := by decide +kernel
theorem dX9_sumOf_23 : decode cX9_sumOf 23 = .ok (.iload_n 3, 1) := by decide +kernel
theorem dX9_sumOf_24 : decode cX9_sumOf 24 = .ok (.invokevirtual 173, 3) := by decide +kernel
theorem dX9_sumOf_27 : decode cX9_sumOf 27 = .ok (.iadd, 1) := by decide +kernel
theorem dX9_sumOf_28 : decode cX9_sumOf 28 = .ok (.istore_n 2, 1) := by decide +kernel
theorem dX9_sumOf_29 : decode cX9_sumOf 29 = .ok (.iinc 3 1, 3) := by decide +kernel
theorem dX9_sumOf_32 : decode cX9_sumOf 32 = .ok (.goto (-28), 3) := by decide +kernel
theorem dX9_sumOf_35 : decode cX9_sumOf 35 = .ok (.iconst 0, 1) := by decide +kernel
theorem dX9_sumOf_36 : decode cX9_sumOf 36 = .ok (.istore_n 3, 1) := by decide +kernel
theorem dX9_sumOf_37 : decode cX9_sumOf 37 = .ok (.iload_n 3, 1) := by decide +kernel
theorem dX9_sumOf_38 : decode cX9_sumOf 38 = .ok (.aload_n 0, 1) := by decide +kernel
theorem dX9_sumOf_39 : decode cX9_sumOf 39 = .ok (.getfield 54, 3) := by decide +kernel
theorem dX9_sumOf_42 : decode cX9_sumOf 42 = .ok (.if_icmp .ge 24, 3) := by decide +kernel
theorem dX9_sumOf_45 : decode cX9_sumOf 45 = .ok (.iload_n 1, 1) := by decide +kernel
theorem dX9_sumOf_46 : decode cX9_sumOf 46 = .ok (.bipush 10, 2) := by decide +kernel
theorem dX9_sumOf_48 : decode cX9_sumOf 48 = .ok (.if_icmp .ne 18, 3) := by decide +kernel
theorem dX9_sumOf_51 : decode cX9_sumOf 51 = .ok (.iload_n 2, 1) := by decide +kernel
theorem dX9_sumOf_52 : decode cX9_sumOf 52 = .ok (.aload_n 0, 1) := by decide +kernel
theorem dX9_sumOf_53 : decode cX9_sumOf 53 = .ok (.getfield 25, 3) := by decide +kernel
theorem dX9_sumOf_56 : decode cX9_sumOf 56 = .ok (.iload_n 3, 1) := by decide +kernel
theorem dX9_sumOf_57 : decode cX9_sumOf 57 = .ok (.iaload, 1) := by decide +kernel
theorem dX9_sumOf_58 : decode cX9_sumOf 58 = .ok (.iadd, 1) := by decide +kernel
theorem dX9_sumOf_59 : decode cX9_sumOf 59 = .ok (.istore_n 2, 1) := by decide +kernel
theorem dX9_sumOf_60 : decode cX9_sumOf 60 = .ok (.iinc 3 1, 3) := by decide +kernel
theorem dX9_sumOf_63 : decode cX9_sumOf 63 = .ok (.goto (-26), 3) := by decide +kernel
theorem dX9_sumOf_66 : decode cX9_sumOf 66 = .ok (.iload_n 2, 1) := by decide +kernel
theorem dX9_sumOf_67 : decode cX9_sumOf 67 = .ok (.ireturn, 1) := by decide +kernel
set_option maxRecDepth 20000 in
theorem ggX9_count_X9_foot : GoodIn wsX9_count wsX9_foot := goodIn_r _ [10, 11, 12, 13, 9, 14, 2, 15, 16, 17, 18, 3, 44, 45, 46, 47, 48, 49, 50, 51, 52, 53, 54, 55, 56, 57, 58, 59, 60, 61] (by decide +kernel) (by decide +kernel)
set_option maxRecDepth 20000 in
theorem gX9_count_X9_foot : GoodIn wsX9_count (wsV RX9 98 RX9 yX9_foot wsX9_foot) := goodIn_app (goodIn_of _ (by decide +kernel)) ggX9_count_X9_foot
set_option maxRecDepth 20000 in
theorem ggX9_count_X9_isReady : GoodIn wsX9_count wsX9_isReady := goodIn_r _ [22, 2, 3, 6, 7, 8, 9, 10, 11, 12, 13, 14, 15, 16, 17, 18, 44, 45, 46, 47, 48, 49, 50, 51, 52, 53, 54, 55, 56, 57, 58, 59, 60, 61] (by decide +kernel) (by decide +kernel)
set_option maxRecDepth 20000 in
theorem gX9_count_X9_isReady : GoodIn wsX9_count (wsV RX9 136 RX9 yX9_isReady wsX9_isReady) := goodIn_app (goodIn_of _ (by decide +kernel)) ggX9_count_X9_isReady
set_option maxRecDepth 20000 in
theorem ggX9_count_X9_sumOf : GoodIn wsX9_count wsX9_sumOf := goodIn_r _ [26, 2, 1, 27, 28, 29, 9, 30, 31, 32, 33, 34, 35, 36, 37, 38, 39, 40, 41, 42, 43, 11, 12, 13, 14, 44, 45, 46, 47, 48, 49, 50, 51, 52, 53, 54, 55, 56, 57, 58, 59, 60, 61] (by decide +kernel) (by decide +kernel)
set_option maxRecDepth 20000 in
theorem gX9_count_X9_sumOf : GoodIn wsX9_count (wsV RX9 185 RX9 yX9_sumOf wsX9_sumOf) := goodIn_app (goodIn_of _ (by decide +kernel)) ggX9_count_X9_sumOf
theorem dX9_count_0 : decode cX9_count 0 = .ok (.iload_n 1, 1) := by decide +kernel
theorem dX9_count_1 : decode cX9_count 1 = .ok (.tableswitch 130 0 12 #[67, 72, 80, 80, 80, 80, 80, 89, 101, 114, 114, 120, 125], 67) := by decide +kernel
theorem dX9_count_68 : decode cX9_count 68 = .ok (.aload_n 0, 1) := by decide +kernel
theorem dX9_count_69 : decode cX9_count 69 = .ok (.getfield 54, 3) := by decide +kernel
theorem dX9_count_72 : decode cX9_count 72 = .ok (.ireturn, 1) := by decide +kernel
theorem dX9_count_73 : decode cX9_count 73 = .ok (.aload_n 0, 1) := by decide +kernel
theorem dX9_count_74 : decode cX9_count 74 = .ok (.getfield 25, 3) := by decide +kernel
theorem dX9_count_77 : decode cX9_count 77 = .ok (.bipush 8, 2) := by decide +kernel
theorem dX9_count_79 : decode cX9_count 79 = .ok (.iaload, 1) := by decide +kernel
theorem dX9_count_80 : decode cX9_count 80 = .ok (.ireturn, 1) := by decide +kernel
theorem dX9_count_81 : decode cX9_count 81 = .ok (.aload_n 0, 1) := by decide +kernel
theorem dX9_count_82 : decode cX9_count 82 = .ok (.getfield 13, 3) := by decide +kernel
theorem dX9_count_85 : decode cX9_count 85 = .ok (.iload_n 1, 1) := by decide +kernel
theorem dX9_count_86 : decode cX9_count 86 = .ok (.iconst 2, 1) := by decide +kernel
theorem dX9_count_87 : decode cX9_count 87 = .ok (.isub, 1) := by decide +kernel
theorem dX9_count_88 : decode cX9_count 88 = .ok (.iaload, 1) := by decide +kernel
theorem dX9_count_89 : decode cX9_count 89 = .ok (.ireturn, 1) := by decide +kernel
theorem dX9_count_90 : decode cX9_count 90 = .ok (.aload_n 0, 1) := by decide +kernel
theorem dX9_count_91 : decode cX9_count 91 = .ok (.aload_n 0, 1) := by decide +kernel
theorem dX9_count_92 : decode cX9_count 92 = .ok (.getfield 25, 3) := by decide +kernel
theorem dX9_count_95 : decode cX9_count 95 = .ok (.bipush 8, 2) := by decide +kernel
theorem dX9_count_97 : decode cX9_count 97 = .ok (.iaload, 1) := by decide +kernel
theorem dX9_count_98 : decode cX9_count 98 = .ok (.invokevirtual 98, 3) := by decide +kernel
theorem dX9_count_101 : decode cX9_count 101 = .ok (.ireturn, 1) := by decide +kernel
theorem dX9_count_102 : decode cX9_count 102 = .ok (.aload_n 0, 1) := by decide +kernel
theorem dX9_count_103 : decode cX9_count 103 = .ok (.invokevirtual 136, 3) := by decide +kernel
theorem dX9_count_106 : decode cX9_count 106 = .ok (.ifCond .eq 7, 3) := by decide +kernel
theorem dX9_count_109 : decode cX9_count 109 = .ok (.iconst 1, 1) := by decide +kernel
theorem dX9_count_110 : decode cX9_count 110 = .ok (.goto 4, 3) := by decide +kernel
theorem dX9_count_113 : decode cX9_count 113 = .ok (.iconst 0, 1) := by decide +kernel
theorem dX9_count_114 : decode cX9_count 114 = .ok (.ireturn, 1) := by decide +kernel
theorem dX9_count_115 : decode cX9_count 115 = .ok (.aload_n 0, 1) := by decide +kernel
theorem dX9_count_116 : decode cX9_count 116 = .ok (.iload_n 1, 1) := by decide +kernel
theorem dX9_count_117 : decode cX9_count 117 = .ok (.invokevirtual 185, 3) := by decide +kernel
theorem dX9_count_120 : decode cX9_count 120 = .ok (.ireturn, 1) := by decide +kernel
theorem dX9_count_121 : decode cX9_count 121 = .ok (.aload_n 0, 1) := by decide +kernel
theorem dX9_count_122 : decode cX9_count 122 = .ok (.getfield 57, 3) := by decide +kernel
theorem dX9_count_125 : decode cX9_count 125 = .ok (.ireturn, 1) := by decide +kernel
theorem dX9_count_126 : decode cX9_count 126 = .ok (.aload_n 0, 1) := by decide +kernel
theorem dX9_count_127 : decode cX9_count 127 = .ok (.getfield 63, 3) := by decide +kernel
theorem dX9_count_130 : decode cX9_count 130 = .ok (.ireturn, 1) := by decide +kernel
theorem dX9_count_131 : decode cX9_count 131 = .ok (.iconst (-1), 1) := by decide +kernel
theorem dX9_count_132 : decode cX9_count 132 = .ok (.ireturn, 1) := by decide +kernel
theorem dJ9_abs_0f7a4_0 : decode cJ9_abs_0f7a4 0 = .ok (.iload_n 0, 1) := by decide +kernel
theorem dJ9_abs_0f7a4_1 : decode cJ9_abs_0f7a4 1 = .ok (.ifCond .ge 8, 3) := by decide +kernel
theorem dJ9_abs_0f7a4_4 : decode cJ9_abs_0f7a4 4 = .ok (.iload_n 0, 1) := by decide +kernel
theorem dJ9_abs_0f7a4_5 : decode cJ9_abs_0f7a4 5 = .ok (.ineg, 1) := by decide +kernel
theorem dJ9_abs_0f7a4_6 : decode cJ9_abs_0f7a4 6 = .ok (.goto 4, 3) := by decide +kernel
theorem dJ9_abs_0f7a4_9 : decode cJ9_abs_0f7a4 9 = .ok (.iload_n 0, 1) := by decide +kernel
theorem dJ9_abs_0f7a4_10 : decode cJ9_abs_0f7a4 10 = .ok (.ireturn, 1) := by decide +kernel
theorem dJ9_max_7cf53_0 : decode cJ9_max_7cf53 0 = .ok (.iload_n 0, 1) := by decide +kernel
theorem dJ9_max_7cf53_1 : decode cJ9_max_7cf53 1 = .ok (.iload_n 1, 1) := by decide +kernel
theorem dJ9_max_7cf53_2 : decode cJ9_max_7cf53 2 = .ok (.if_icmp .lt 7, 3) := by decide +kernel
theorem dJ9_max_7cf53_5 : decode cJ9_max_7cf53 5 = .ok (.iload_n 0, 1) := by decide +kernel
theorem dJ9_max_7cf53_6 : decode cJ9_max_7cf53 6 = .ok (.goto 4, 3) := by decide +kernel
theorem dJ9_max_7cf53_9 : decode cJ9_max_7cf53 9 = .ok (.iload_n 1, 1) := by decide +kernel
theorem dJ9_max_7cf53_10 : decode cJ9_max_7cf53 10 = .ok (.ireturn, 1) := by decide +kernel
set_option maxRecDepth 20000 in
theorem ggJ0_length_8abf5_J0_coder_7d493 : GoodIn wsJ0_length_8abf5 wsJ0_coder_7d493 := goodIn_r _ [6, 7, 8] (by decide +kernel) (by decide +kernel)
set_option maxRecDepth 20000 in
theorem gJ0_length_8abf5_J0_coder_7d493 : GoodIn wsJ0_length_8abf5 (wsV RJ0 335 RJ0 yJ0_coder_7d493 wsJ0_coder_7d493) := goodIn_app (goodIn_of _ (by decide +kernel)) ggJ0_length_8abf5_J0_coder_7d493
theorem dJ0_length_8abf5_0 : decode cJ0_length_8abf5 0 = .ok (.aload_n 0, 1) := by decide +kernel
theorem dJ0_length_8abf5_1 : decode cJ0_length_8abf5 1 = .ok (.getfield 9, 3) := by decide +kernel
theorem dJ0_length_8abf5_4 : decode cJ0_length_8abf5 4 = .ok (.arraylength, 1) := by decide +kernel
theorem dJ0_length_8abf5_5 : decode cJ0_length_8abf5 5 = .ok (.aload_n 0, 1) := by decide +kernel
theorem dJ0_length_8abf5_6 : decode cJ0_length_8abf5 6 = .ok (.invokevirtual 335, 3) := by decide +kernel
theorem dJ0_length_8abf5_9 : decode cJ0_length_8abf5 9 = .ok (.ishr, 1) := by decide +kernel
theorem dJ0_length_8abf5_10 : decode cJ0_length_8abf5 10 = .ok (.ireturn, 1) := by decide +kernel
set_option maxRecDepth 20000 in
theorem ggJ0_charAt_5068e_J0_isLatin1_aae02 : GoodIn wsJ0_charAt_5068e wsJ0_isLatin1_aae02 := goodIn_r _ [6, 7, 8] (by decide +kernel) (by decide +kernel)
set_option maxRecDepth 20000 in
theorem gJ0_charAt_5068e_J0_isLatin1_aae02 : GoodIn wsJ0_charAt_5068e (wsV RJ0 492 RJ0 yJ0_isLatin1_aae02 wsJ0_isLatin1_aae02) := goodIn_app (goodIn_of _ (by decide +kernel)) ggJ0_charAt_5068e_J0_isLatin1_aae02
set_option maxRecDepth 20000 in
theorem ggJ0_charAt_5068e_J1_charAt_3b067 : GoodIn wsJ0_charAt_5068e wsJ1_charAt_3b067 := goodIn_r _ [12, 13, 14, 5, 15, 16, 17, 18, 19, 20] (by decide +kernel) (by decide +kernel)
set_option maxRecDepth 20000 in
theorem gJ0_charAt_5068e_J1_charAt_3b067 : GoodIn wsJ0_charAt_5068e (va_wsS RJ0 495 yJ1_charAt_3b067 wsJ1_charAt_3b067) := goodIn_app (goodIn_of _ (by decide +kernel)) ggJ0_charAt_5068e_J1_charAt_3b067
set_option maxRecDepth 20000 in
theorem ggJ0_charAt_5068e_J2_charAt_3b067 : GoodIn wsJ0_charAt_5068e wsJ2_charAt_3b067 := goodIn_r _ [24, 25, 26, 23, 27, 28, 29, 30, 31, 14, 5, 15, 16, 17, 18, 19, 20, 32, 33, 34, 35, 36, 37] (by decide +kernel) (by decide +kernel)
set_option maxRecDepth 20000 in
theorem gJ0_charAt_5068e_J2_charAt_3b067 : GoodIn wsJ0_charAt_5068e (va_wsS RJ0 498 yJ2_charAt_3b067 wsJ2_charAt_3b067) := goodIn_app (goodIn_of _ (by decide +kernel)) ggJ0_charAt_5068e_J2_charAt_3b067
theorem dJ0_charAt_5068e_0 : decode cJ0_charAt_5068e 0 = .ok (.aload_n 0, 1) := by decide +kernel
theorem dJ0_charAt_5068e_1 : decode cJ0_charAt_5068e 1 = .ok (.invokevirtual 492, 3) := by decide +kernel
theorem dJ0_charAt_5068e_4 : decode cJ0_charAt_5068e 4 = .ok (.ifCond .eq 12, 3) := by decide +kernel
theorem dJ0_charAt_5068e_7 : decode cJ0_charAt_5068e 7 = .ok (.aload_n 0, 1) := by decide +kernel
theorem dJ0_charAt_5068e_8 : decode cJ0_charAt_5068e 8 = .ok (.getfield 9, 3) := by decide +kernel
theorem dJ0_charAt_5068e_11 : decode cJ0_charAt_5068e 11 = .ok (.iload_n 1, 1) := by decide +kernel
theorem dJ0_charAt_5068e_12 : decode cJ0_charAt_5068e 12 = .ok (.invokestatic 495, 3) := by decide +kernel
theorem dJ0_charAt_5068e_15 : decode cJ0_charAt_5068e 15 = .ok (.ireturn, 1) := by decide +kernel
theorem dJ0_charAt_5068e_16 : decode cJ0_charAt_5068e 16 = .ok (.aload_n 0, 1) := by decide +kernel
theorem dJ0_charAt_5068e_17 : decode cJ0_charAt_5068e 17 = .ok (.getfield 9, 3) := by decide +kernel
theorem dJ0_charAt_5068e_20 : decode cJ0_charAt_5068e 20 = .ok (.iload_n 1, 1) := by decide +kernel
theorem dJ0_charAt_5068e_21 : decode cJ0_charAt_5068e 21 = .ok (.invokestatic 498, 3) := by decide +kernel
theorem dJ0_charAt_5068e_24 : decode cJ0_charAt_5068e 24 = .ok (.ireturn, 1) := by decide +kernel
theorem dJ0_coder_7d493_0 : decode cJ0_coder_7d493 0 = .ok (.getstatic 38, 3) := by decide +kernel
theorem dJ0_coder_7d493_3 : decode cJ0_coder_7d493 3 = .ok (.ifCond .eq 10, 3) := by decide +kernel
theorem dJ0_coder_7d493_6 : decode cJ0_coder_7d493 6 = .ok (.aload_n 0, 1) := by decide +kernel
theorem dJ0_coder_7d493_7 : decode cJ0_coder_7d493 7 = .ok (.getfield 15, 3) := by decide +kernel
theorem dJ0_coder_7d493_10 : decode cJ0_coder_7d493 10 = .ok (.goto 4, 3) := by decide +kernel
theorem dJ0_coder_7d493_13 : decode cJ0_coder_7d493 13 = .ok (.iconst 1, 1) := by decide +kernel
theorem dJ0_coder_7d493_14 : decode cJ0_coder_7d493 14 = .ok (.ireturn, 1) := by decide +kernel
theorem dJ0_isLatin1_aae02_0 : decode cJ0_isLatin1_aae02 0 = .ok (.getstatic 38, 3) := by decide +kernel
theorem dJ0_isLatin1_aae02_3 : decode cJ0_isLatin1_aae02 3 = .ok (.ifCond .eq 14, 3) := by decide +kernel
theorem dJ0_isLatin1_aae02_6 : decode cJ0_isLatin1_aae02 6 = .ok (.aload_n 0, 1) := by decide +kernel
theorem dJ0_isLatin1_aae02_7 : decode cJ0_isLatin1_aae02 7 = .ok (.getfield 15, 3) := by decide +kernel
theorem dJ0_isLatin1_aae02_10 : decode cJ0_isLatin1_aae02 10 = .ok (.ifCond .ne 7, 3) := by decide +kernel
theorem dJ0_isLatin1_aae02_13 : decode cJ0_isLatin1_aae02 13 = .ok (.iconst 1, 1) := by decide +kernel
theorem dJ0_isLatin1_aae02_14 : decode cJ0_isLatin1_aae02 14 = .ok (.goto 4, 3) := by decide +kernel
theorem dJ0_isLatin1_aae02_17 : decode cJ0_isLatin1_aae02 17 = .ok (.iconst 0, 1) := by decide +kernel
theorem dJ0_isLatin1_aae02_18 : decode cJ0_isLatin1_aae02 18 = .ok (.ireturn, 1) := by decide +kernel
set_option maxRecDepth 20000 in
theorem ggJ0_checkIndex_df160_J3_checkIndex_8e157 : GoodIn wsJ0_checkIndex_df160 wsJ3_checkIndex_8e157 := goodIn_r _ [5] (by decide +kernel) (by decide +kernel)
set_option maxRecDepth 20000 in
theorem gJ0_checkIndex_df160_J3_checkIndex_8e157 : GoodIn wsJ0_checkIndex_df160 (va_wsS RJ0 1059 yJ3_checkIndex_8e157 wsJ3_checkIndex_8e157) := goodIn_app (goodIn_of _ (by decide +kernel)) ggJ0_checkIndex_df160_J3_checkIndex_8e157
theorem dJ0_checkIndex_df160_0 : decode cJ0_checkIndex_df160 0 = .ok (.iload_n 0, 1) := by decide +kernel
theorem dJ0_checkIndex_df160_1 : decode cJ0_checkIndex_df160 1 = .ok (.iload_n 1, 1) := by decide +kernel
theorem dJ0_checkIndex_df160_2 : decode cJ0_checkIndex_df160 2 = .ok (.getstatic 1053, 3) := by decide +kernel
theorem dJ0_checkIndex_df160_5 : decode cJ0_checkIndex_df160 5 = .ok (.invokestatic 1059, 3) := by decide +kernel
theorem dJ0_checkIndex_df160_8 : decode cJ0_checkIndex_df160 8 = .ok (.pop, 1) := by decide +kernel
theorem dJ0_checkIndex_df160_9 : decode cJ0_checkIndex_df160 9 = .ok (.return_, 1) := by decide +kernel
set_option maxRecDepth 20000 in
theorem ggJ1_charAt_3b067_J0_checkIndex_df160 : GoodIn wsJ1_charAt_3b067 wsJ0_checkIndex_df160 := goodIn_r _ [4, 5, 6, 7, 8, 9] (by decide +kernel) (by decide +kernel)
set_option maxRecDepth 20000 in
theorem gJ1_charAt_3b067_J0_checkIndex_df160 : GoodIn wsJ1_charAt_3b067 (va_wsS RJ1 9 yJ0_checkIndex_df160 wsJ0_checkIndex_df160) := goodIn_app (goodIn_of _ (by decide +kernel)) ggJ1_charAt_3b067_J0_checkIndex_df160
theorem dJ1_charAt_3b067_0 : decode cJ1_charAt_3b067 0 = .ok (.iload_n 1, 1) := by decide +kernel
theorem dJ1_charAt_3b067_1 : decode cJ1_charAt_3b067 1 = .ok (.aload_n 0, 1) := by decide +kernel
theorem dJ1_charAt_3b067_2 : decode cJ1_charAt_3b067 2 = .ok (.arraylength, 1) := by decide +kernel
theorem dJ1_charAt_3b067_3 : decode cJ1_charAt_3b067 3 = .ok (.invokestatic 9, 3) := by decide +kernel
theorem dJ1_charAt_3b067_6 : decode cJ1_charAt_3b067 6 = .ok (.aload_n 0, 1) := by decide +kernel
theorem dJ1_charAt_3b067_7 : decode cJ1_charAt_3b067 7 = .ok (.iload_n 1, 1) := by decide +kernel
theorem dJ1_charAt_3b067_8 : decode cJ1_charAt_3b067 8 = .ok (.baload, 1) := by decide +kernel
theorem dJ1_charAt_3b067_9 : decode cJ1_charAt_3b067 9 = .ok (.sipush 255, 3) := by decide +kernel
theorem dJ1_charAt_3b067_12 : decode cJ1_charAt_3b067 12 = .ok (.iand, 1) := by decide +kernel
theorem dJ1_charAt_3b067_13 : decode cJ1_charAt_3b067 13 = .ok (.i2c, 1) := by decide +kernel
theorem dJ1_charAt_3b067_14 : decode cJ1_charAt_3b067 14 = .ok (.ireturn, 1) := by decide +kernel
set_option maxRecDepth 20000 in
theorem ggJ2_getChar_3b067_J2_length_9d52b : GoodIn wsJ2_getChar_3b067 wsJ2_length_9d52b := goodIn_r _ [7] (by decide +kernel) (by decide +kernel)
set_option maxRecDepth 20000 in
theorem gJ2_getChar_3b067_J2_length_9d52b : GoodIn wsJ2_getChar_3b067 (va_wsS RJ2 48 yJ2_length_9d52b wsJ2_length_9d52b) := goodIn_app (goodIn_of _ (by decide +kernel)) ggJ2_getChar_3b067_J2_length_9d52b
theorem dJ2_getChar_3b067_0 : decode cJ2_getChar_3b067 0 = .ok (.getstatic 44, 3) := by decide +kernel
theorem dJ2_getChar_3b067_3 : decode cJ2_getChar_3b067 3 = .ok (.ifCond .ne 25, 3) := by decide +kernel
theorem dJ2_getChar_3b067_6 : decode cJ2_getChar_3b067 6 = .ok (.iload_n 1, 1) := by decide +kernel
theorem dJ2_getChar_3b067_7 : decode cJ2_getChar_3b067 7 = .ok (.ifCond .lt 11, 3) := by decide +kernel
theorem dJ2_getChar_3b067_10 : decode cJ2_getChar_3b067 10 = .ok (.iload_n 1, 1) := by decide +kernel
theorem dJ2_getChar_3b067_11 : decode cJ2_getChar_3b067 11 = .ok (.aload_n 0, 1) := by decide +kernel
theorem dJ2_getChar_3b067_12 : decode cJ2_getChar_3b067 12 = .ok (.invokestatic 48, 3) := by decide +kernel
theorem dJ2_getChar_3b067_15 : decode cJ2_getChar_3b067 15 = .ok (.if_icmp .lt 13, 3) := by decide +kernel
theorem dJ2_getChar_3b067_18 : decode cJ2_getChar_3b067 18 = .ok (.new 52, 3) := by decide +kernel
theorem dJ2_getChar_3b067_21 : decode cJ2_getChar_3b067 21 = .ok (.dup, 1) := by decide +kernel
theorem dJ2_getChar_3b067_22 : decode cJ2_getChar_3b067 22 = .ok (.ldc 54, 2) := by decide +kernel
theorem dJ2_getChar_3b067_24 : decode cJ2_getChar_3b067 24 = .ok (.invokespecial 56, 3) := by decide +kernel
theorem dJ2_getChar_3b067_27 : decode cJ2_getChar_3b067 27 = .ok (.athrow, 1) := by decide +kernel
theorem dJ2_getChar_3b067_28 : decode cJ2_getChar_3b067 28 = .ok (.iload_n 1, 1) := by decide +kernel
theorem dJ2_getChar_3b067_29 : decode cJ2_getChar_3b067 29 = .ok (.iconst 1, 1) := by decide +kernel
theorem dJ2_getChar_3b067_30 : decode cJ2_getChar_3b067 30 = .ok (.ishl, 1) := by decide +kernel
theorem dJ2_getChar_3b067_31 : decode cJ2_getChar_3b067 31 = .ok (.istore_n 1, 1) := by decide +kernel
theorem dJ2_getChar_3b067_32 : decode cJ2_getChar_3b067 32 = .ok (.aload_n 0, 1) := by decide +kernel
theorem dJ2_getChar_3b067_33 : decode cJ2_getChar_3b067 33 = .ok (.iload_n 1, 1) := by decide +kernel
theorem dJ2_getChar_3b067_34 : decode cJ2_getChar_3b067 34 = .ok (.iinc 1 1, 3) := by decide +kernel
theorem dJ2_getChar_3b067_37 : decode cJ2_getChar_3b067 37 = .ok (.baload, 1) := by decide +kernel
theorem dJ2_getChar_3b067_38 : decode cJ2_getChar_3b067 38 = .ok (.sipush 255, 3) := by decide +kernel
theorem dJ2_getChar_3b067_41 : decode cJ2_getChar_3b067 41 = .ok (.iand, 1) := by decide +kernel
theorem dJ2_getChar_3b067_42 : decode cJ2_getChar_3b067 42 = .ok (.getstatic 59, 3) := by decide +kernel
theorem dJ2_getChar_3b067_45 : decode cJ2_getChar_3b067 45 = .ok (.ishl, 1) := by decide +kernel
theorem dJ2_getChar_3b067_46 : decode cJ2_getChar_3b067 46 = .ok (.aload_n 0, 1) := by decide +kernel
theorem dJ2_getChar_3b067_47 : decode cJ2_getChar_3b067 47 = .ok (.iload_n 1, 1) := by decide +kernel
theorem dJ2_getChar_3b067_48 : decode cJ2_getChar_3b067 48 = .ok (.baload, 1) := by decide +kernel
theorem dJ2_getChar_3b067_49 : decode cJ2_getChar_3b067 49 = .ok (.sipush 255, 3) := by decide +kernel
theorem dJ2_getChar_3b067_52 : decode cJ2_getChar_3b067 52 = .ok (.iand, 1) := by decide +kernel
theorem dJ2_getChar_3b067_53 : decode cJ2_getChar_3b067 53 = .ok (.getstatic 63, 3) := by decide +kernel
theorem dJ2_getChar_3b067_56 : decode cJ2_getChar_3b067 56 = .ok (.ishl, 1) := by decide +kernel
theorem dJ2_getChar_3b067_57 : decode cJ2_getChar_3b067 57 = .ok (.ior, 1) := by decide +kernel
theorem dJ2_getChar_3b067_58 : decode cJ2_getChar_3b067 58 = .ok (.i2c, 1) := by decide +kernel
theorem dJ2_getChar_3b067_59 : decode cJ2_getChar_3b067 59 = .ok (.ireturn, 1) := by decide +kernel
theorem dJ2_length_9d52b_0 : decode cJ2_length_9d52b 0 = .ok (.aload_n 0, 1) := by decide +kernel
theorem dJ2_length_9d52b_1 : decode cJ2_length_9d52b 1 = .ok (.arraylength, 1) := by decide +kernel
theorem dJ2_length_9d52b_2 : decode cJ2_length_9d52b 2 = .ok (.iconst 1, 1) := by decide +kernel
theorem dJ2_length_9d52b_3 : decode cJ2_length_9d52b 3 = .ok (.ishr, 1) := by decide +kernel
theorem dJ2_length_9d52b_4 : decode cJ2_length_9d52b 4 = .ok (.ireturn, 1) := by decide +kernel
set_option maxRecDepth 20000 in
theorem ggJ2_charAt_3b067_J2_checkIndex_2214a : GoodIn wsJ2_charAt_3b067 wsJ2_checkIndex_2214a := goodIn_r _ [4, 5, 6, 3, 7, 8, 9, 10, 11, 12, 13, 14, 15, 16] (by decide +kernel) (by decide +kernel)
set_option maxRecDepth 20000 in
theorem gJ2_charAt_3b067_J2_checkIndex_2214a : GoodIn wsJ2_charAt_3b067 (va_wsS RJ2 67 yJ2_checkIndex_2214a wsJ2_checkIndex_2214a) := goodIn_app (goodIn_of _ (by decide +kernel)) ggJ2_charAt_3b067_J2_checkIndex_2214a
set_option maxRecDepth 20000 in
theorem ggJ2_charAt_3b067_J2_getChar_3b067 : GoodIn wsJ2_charAt_3b067 wsJ2_getChar_3b067 := goodIn_r _ [19, 20, 21, 22, 5, 6, 3, 7] (by decide +kernel) (by decide +kernel)
set_option maxRecDepth 20000 in
theorem gJ2_charAt_3b067_J2_getChar_3b067 : GoodIn wsJ2_charAt_3b067 (va_wsS RJ2 71 yJ2_getChar_3b067 wsJ2_getChar_3b067) := goodIn_app (goodIn_of _ (by decide +kernel)) ggJ2_charAt_3b067_J2_getChar_3b067
theorem dJ2_charAt_3b067_0 : decode cJ2_charAt_3b067 0 = .ok (.iload_n 1, 1) := by decide +kernel
theorem dJ2_charAt_3b067_1 : decode cJ2_charAt_3b067 1 = .ok (.aload_n 0, 1) := by decide +kernel
theorem dJ2_charAt_3b067_2 : decode cJ2_charAt_3b067 2 = .ok (.invokestatic 67, 3) := by decide +kernel
theorem dJ2_charAt_3b067_5 : decode cJ2_charAt_3b067 5 = .ok (.aload_n 0, 1) := by decide +kernel
theorem dJ2_charAt_3b067_6 : decode cJ2_charAt_3b067 6 = .ok (.iload_n 1, 1) := by decide +kernel
theorem dJ2_charAt_3b067_7 : decode cJ2_charAt_3b067 7 = .ok (.invokestatic 71, 3) := by decide +kernel
theorem dJ2_charAt_3b067_10 : decode cJ2_charAt_3b067 10 = .ok (.ireturn, 1) := by decide +kernel
set_option maxRecDepth 20000 in
theorem ggJ2_checkIndex_2214a_J2_length_9d52b : GoodIn wsJ2_checkIndex_2214a wsJ2_length_9d52b := goodIn_r _ [4] (by decide +kernel) (by decide +kernel)
set_option maxRecDepth 20000 in
theorem gJ2_checkIndex_2214a_J2_length_9d52b : GoodIn wsJ2_checkIndex_2214a (va_wsS RJ2 48 yJ2_length_9d52b wsJ2_length_9d52b) := goodIn_app (goodIn_of _ (by decide +kernel)) ggJ2_checkIndex_2214a_J2_length_9d52b
set_option maxRecDepth 20000 in
theorem ggJ2_checkIndex_2214a_J0_checkIndex_df160 : GoodIn wsJ2_checkIndex_2214a wsJ0_checkIndex_df160 := goodIn_r _ [8, 9, 10, 11, 12, 13] (by decide +kernel) (by decide +kernel)
set_option maxRecDepth 20000 in
theorem gJ2_checkIndex_2214a_J0_checkIndex_df160 : GoodIn wsJ2_checkIndex_2214a (va_wsS RJ2 414 yJ0_checkIndex_df160 wsJ0_checkIndex_df160) := goodIn_app (goodIn_of _ (by decide +kernel)) ggJ2_checkIndex_2214a_J0_checkIndex_df160
theorem dJ2_checkIndex_2214a_0 : decode cJ2_checkIndex_2214a 0 = .ok (.iload_n 0, 1) := by decide +kernel
theorem dJ2_checkIndex_2214a_1 : decode cJ2_checkIndex_2214a 1 = .ok (.aload_n 1, 1) := by decide +kernel
theorem dJ2_checkIndex_2214a_2 : decode cJ2_checkIndex_2214a 2 = .ok (.invokestatic 48, 3) := by decide +kernel
theorem dJ2_checkIndex_2214a_5 : decode cJ2_checkIndex_2214a 5 = .ok (.invokestatic 414, 3) := by decide +kernel
theorem dJ2_checkIndex_2214a_8 : decode cJ2_checkIndex_2214a 8 = .ok (.return_, 1) := by decide +kernel
theorem dJ3_checkIndex_8e157_0 : decode cJ3_checkIndex_8e157 0 = .ok (.iload_n 0, 1) := by decide +kernel
theorem dJ3_checkIndex_8e157_1 : decode cJ3_checkIndex_8e157 1 = .ok (.ifCond .lt 8, 3) := by decide +kernel
theorem dJ3_checkIndex_8e157_4 : decode cJ3_checkIndex_8e157 4 = .ok (.iload_n 0, 1) := by decide +kernel
theorem dJ3_checkIndex_8e157_5 : decode cJ3_checkIndex_8e157 5 = .ok (.iload_n 1, 1) := by decide +kernel
theorem dJ3_checkIndex_8e157_6 : decode cJ3_checkIndex_8e157 6 = .ok (.if_icmp .lt 10, 3) := by decide +kernel
theorem dJ3_checkIndex_8e157_9 : decode cJ3_checkIndex_8e157 9 = .ok (.aload_n 2, 1) := by decide +kernel
theorem dJ3_checkIndex_8e157_10 : decode cJ3_checkIndex_8e157 10 = .ok (.iload_n 0, 1) := by decide +kernel
theorem dJ3_checkIndex_8e157_11 : decode cJ3_checkIndex_8e157 11 = .ok (.iload_n 1, 1) := by decide +kernel
theorem dJ3_checkIndex_8e157_12 : decode cJ3_checkIndex_8e157 12 = .ok (.invokestatic 95, 3) := by decide +kernel
theorem dJ3_checkIndex_8e157_15 : decode cJ3_checkIndex_8e157 15 = .ok (.athrow, 1) := by decide +kernel
theorem dJ3_checkIndex_8e157_16 : decode cJ3_checkIndex_8e157 16 = .ok (.iload_n 0, 1) := by decide +kernel
theorem dJ3_checkIndex_8e157_17 : decode cJ3_checkIndex_8e157 17 = .ok (.ireturn, 1) := by decide +kernel
abbrev vwCl : List vw_C := [(RX0, TX0, 10), (RX1, TX1, 4), (RX2, TX2, 2), (RX3, TX3, 9), (RX4, TX4, 2), (RX5, TX5, 9), (RX6, TX6, 5), (RX7, TX7, 4), (RX8, TX8, 8), (RX9, TX9, 18)]
end
section
/-! ===== the numbers: Int held in Int32 ===== -/
def iI (z : Int) : Int32 := Int32.ofInt z
theorem iI_toInt {z : Int} (h : -2147483648 ≤ z ∧ z < 2147483648) : (iI z).toInt = z := by
  unfold iI
  rw [Int32.toInt_ofInt]
  show z.bmod (2 ^ 32) = z
  exact Int.bmod_eq_of_le (by omega) (by omega)
theorem iI_of (x : Int32) : x = iI x.toInt := (Int32.ofInt_toInt x).symm
theorem iI_rng (x : Int32) : -2147483648 ≤ x.toInt ∧ x.toInt < 2147483648 := by
  have h1 := Int32.le_toInt x
  have h2 := Int32.toInt_lt x
  omega
theorem iI_add (a b : Int) : iI a + iI b = iI (a + b) := by
  unfold iI; rw [Int32.ofInt_add]
theorem iI_sub (a b : Int) : iI a - iI b = iI (a - b) := by
  unfold iI; rw [Int32.ofInt_sub]
theorem iI_mul (a b : Int) : iI a * iI b = iI (a * b) := by
  unfold iI; rw [Int32.ofInt_mul]
theorem iI_neg (a : Int) : -iI a = iI (-a) := by
  unfold iI; rw [Int32.ofInt_neg]
theorem iI_lt {a b : Int} (ha : -2147483648 ≤ a ∧ a < 2147483648) (hb : -2147483648 ≤ b ∧ b < 2147483648) : iI a < iI b ↔ a < b := by
  rw [Int32.lt_iff_toInt_lt, iI_toInt ha, iI_toInt hb]
theorem iI_le {a b : Int} (ha : -2147483648 ≤ a ∧ a < 2147483648) (hb : -2147483648 ≤ b ∧ b < 2147483648) : iI a ≤ iI b ↔ a ≤ b := by
  rw [Int32.le_iff_toInt_le, iI_toInt ha, iI_toInt hb]
theorem iI_eq {a b : Int} (ha : -2147483648 ≤ a ∧ a < 2147483648) (hb : -2147483648 ≤ b ∧ b < 2147483648) : iI a = iI b ↔ a = b := by
  rw [← Int32.toInt_inj, iI_toInt ha, iI_toInt hb]
theorem iI_0 : iI 0 = 0 := rfl
theorem iI_nat {a : Int} (h : 0 ≤ a ∧ a < 2147483648) : (iI a).toNatClampNeg = a.toNat := by
  show (iI a).toInt.toNat = a.toNat
  rw [iI_toInt (by omega)]
theorem iI_in {a : Int} {N : Nat} (h : 0 ≤ a ∧ a < N) (hN : N < 2147483648) : vp_in (iI a) N := by
  rw [vp_in_iff, iI_toInt (by omega)]
  omega
theorem iI_div {a b : Int} (ha : 0 ≤ a ∧ a < 2147483648) (hb : 0 < b ∧ b < 2147483648) : iI a / iI b = iI (a / b) := by
  have h0 : 0 ≤ a / b := Int.ediv_nonneg ha.1 (by omega)
  have h1 : a / b ≤ a := Int.ediv_le_self _ ha.1
  apply Int32.toInt_inj.mp
  rw [lg_idiv_nonneg (by rw [iI_toInt (by omega)]; omega) (by rw [iI_toInt (by omega)]; omega), iI_toInt (by omega), iI_toInt (by omega), iI_toInt (by omega)]
theorem iI_rem {a b : Int} (ha : 0 ≤ a ∧ a < 2147483648) (hb : 0 < b ∧ b < 2147483648) : iI a - iI a / iI b * iI b = iI (a % b) := by
  rw [iI_div ha hb, iI_mul, iI_sub]
  congr 1
  have h := Int.emod_add_mul_ediv a b
  rw [Int.mul_comm] at h
  omega
/-! ===== the store: what each address from g.2.2 on holds ===== -/
abbrev gG : Type := va_G × (Nat → ClassId) × Nat
abbrev gE : Type := Option va_E
def oI (g : gG) (N : Nat) (f : Nat → Int) : gE := some (.inl (g.2.1 0, N, .inl (fun j => iI (f j))))
def oC (g : gG) (N : Nat) (f : Nat → Int) : gE := some (.inl (g.2.1 1, N, .inl (fun j => iI (f j))))
def oR (g : gG) (t N : Nat) (f : Nat → Option Nat) : gE := some (.inl (g.2.1 t, N, .inr (.inr (.inr (.inr f)))))
def oO (ci : Nat) (fs : List Value) : gE := some (.inr (ci, fs))
abbrev g_T (g : gG) : List (ClassId × FieldType) := [(g.2.1 0, .int), (g.2.1 1, .char), (g.2.1 2, .object "RoofCourses$Course"), (g.2.1 3, .object "RoofCourses$Change")]
def g_nest : List (String × Nat × MethodName) := [(RX8, 9, yX7_init), (RX8, 18, yX5_init), (RX8, 53, yX2_init), (RX8, 60, yX3_init), (RX0, 17, yX3_init), (RX6, 21, yX3_init), (RX5, 61, yX8_isWithin)]
def g_K (g : gG) (U : State) : Prop := va_K g.1 vwCl (g_T g) U ∧ (∀ q ∈ g_nest, va_Nw (.methodLinkNest q.1 q.2.1 q.2.2 "RoofCourses") U) ∧ va_AO "RoofCourses$Course" U ∧ va_AO "RoofCourses$Change" U
theorem g_K.moved {g : gG} {u U : State} (hW : u.WarmedH U.vm) (h : g_K g u) : g_K g U := ⟨va_K.moved hW.alike h.1, fun q hq => va_Nw.warmM hW (h.2.1 q hq), h.2.2.1.moved hW.alike, h.2.2.2.moved hW.alike⟩
theorem g_K.same {g : gG} {u U : State} (hv : u.vm = U.vm) (h : g_K g u) : g_K g U := ⟨va_K.moved (hv ▸ Vm.Alike.refl u.vm) h.1, fun q hq => va_Nw.same rfl hv (h.2.1 q hq), h.2.2.1.moved (hv ▸ Vm.Alike.refl u.vm), h.2.2.2.moved (hv ▸ Vm.Alike.refl u.vm)⟩
def g_S (g : gG) (n : Nat) (S : Nat → gE) (H : Heap) : Prop := H.size = n ∧ g.2.2 ≤ n ∧ ∀ (a : Nat) (x : va_E), S a = some x → g.2.2 ≤ a ∧ a < n ∧ va_at g.1 vwCl (a, x) H
abbrev g_A (g : gG) : Nat → Prop := fun q => g.2.2 ≤ q
def g_W (g : gG) (n : Nat) (S : Nat → gE) (s : State) (H : Heap) (locs : List Loc) : Prop := g_S g n S H ∧ g_K g s ∧ va_S (g_A g) s.heap H locs
theorem g_S.set {g : gG} {n : Nat} {S : Nat → gE} {H H1 : Heap} (h : g_S g n S H) {a : Nat} {x0 x : va_E} (hx0 : S a = some x0) (hx : va_at g.1 vwCl (a, x) H1) (hz : H1.size = H.size) (oq : ∀ q, q ≠ a → H1[q]? = H[q]?) : g_S g n (va_up S a (some x)) H1 := by
  refine ⟨hz.trans h.1, h.2.1, fun b y hy => ?_⟩
  by_cases hb : b = a
  · subst hb
    rw [va_up_self] at hy
    cases hy
    obtain ⟨h1, h2, -⟩ := h.2.2 b x0 hx0
    exact ⟨h1, h2, hx⟩
  · rw [va_up_ne _ _ hb] at hy
    obtain ⟨h1, h2, h3⟩ := h.2.2 b y hy
    exact ⟨h1, h2, h3.kept (oq b hb)⟩
theorem g_W.set {g : gG} {n : Nat} {S : Nat → gE} {s : State} {H H1 : Heap} {locs L : List Loc} (h : g_W g n S s H locs) {a : Nat} {x0 x : va_E} (hx0 : S a = some x0) (hx : va_at g.1 vwCl (a, x) H1) (hz : H1.size = H.size) (oq : ∀ q, q ≠ a → H1[q]? = H[q]?) (hL : ∀ q ∈ L, q.base = a) : g_W g n (va_up S a (some x)) s H1 (locs ++ L) := by
  obtain ⟨h1, h2, h3, h4, h5⟩ := h
  have ha := (h1.2.2 a x0 hx0).1
  refine ⟨h1.set hx0 hx hz oq, h2, by omega, fun q g1 g2 => ?_, fun q hq => ?_⟩
  · rw [oq q (fun e => g2 (by rw [e]; exact ha))]
    exact h4 q g1 g2
  · rcases List.mem_append.mp hq with h | h
    · exact h5 q h
    · show g.2.2 ≤ q.base
      rw [hL q h]; exact ha
theorem g_S.push {g : gG} {n : Nat} {S : Nat → gE} {H H1 : Heap} (h : g_S g n S H) {x : va_E} (hx : va_at g.1 vwCl (n, x) H1) (hz : H1.size = n + 1) (oq : ∀ q, q < n → H1[q]? = H[q]?) : g_S g (n + 1) (va_up S n (some x)) H1 := by
  refine ⟨hz, Nat.le_succ_of_le h.2.1, fun b y hy => ?_⟩
  by_cases hb : b = n
  · subst hb
    rw [va_up_self] at hy
    cases hy
    exact ⟨h.2.1, Nat.lt_succ_self _, hx⟩
  · rw [va_up_ne _ _ hb] at hy
    obtain ⟨h1, h2, h3⟩ := h.2.2 b y hy
    exact ⟨h1, Nat.lt_succ_of_lt h2, h3.kept (oq b h2)⟩
theorem g_W.push {g : gG} {n : Nat} {S : Nat → gE} {s : State} {H H1 : Heap} {locs : List Loc} (h : g_W g n S s H locs) {x : va_E} (hx : va_at g.1 vwCl (n, x) H1) (hz : H1.size = n + 1) (oq : ∀ q, q < n → H1[q]? = H[q]?) : g_W g (n + 1) (va_up S n (some x)) s H1 locs := by
  obtain ⟨h1, h2, h3, h4, h5⟩ := h
  have hn := h1.1
  refine ⟨h1.push hx hz oq, h2, by omega, fun q g1 g2 => ?_, h5⟩
  rw [oq q (by omega)]
  exact h4 q g1 g2
theorem g_S.lt {g : gG} {n : Nat} {S : Nat → gE} {H : Heap} (h : g_S g n S H) {a : Nat} {x : va_E} (hx : S a = some x) : g.2.2 ≤ a ∧ a < n := ⟨(h.2.2 a x hx).1, (h.2.2 a x hx).2.1⟩
/-! ===== contracts ===== -/
/-- a method that changes nothing and answers v -/
def g_Cp (l : Launch) (y : MethodName) (ws : List Cond) (rm : Room) (g : gG) (av : List Value) (n : Nat) (S : Nat → gE) (v : Option Value) : Prop :=
  Met l y ws rm (va_Pc av (fun U => g_S g n S U.heap ∧ g_K g U)) (fun _ st oc t => oc = .returned v ∧ t.heap = st.heap) 0 0 (fun _ => False)
/-- a method that goes from the store S to another one -/
def g_Cs (l : Launch) (y : MethodName) (ws : List Cond) (rm : Room) (g : gG) (av : List Value) (n : Nat) (S : Nat → gE) (Qp : Option Value → Nat → (Nat → gE) → Prop) (mc ms : Nat) : Prop :=
  Met l y ws rm (va_Pc av (fun U => g_S g n S U.heap ∧ g_K g U)) (fun _ st oc t => ∃ (v : Option Value) (n1 : Nat) (S1 : Nat → gE), oc = .returned v ∧ Qp v n1 S1 ∧ g_S g n1 S1 t.heap ∧ va_F (g_A g) st t) mc ms (g_A g)
section NNC
variable {l : Launch} {y : MethodName} {ws ws' : List Cond} {rm : Room} {g : gG} {av : List Value} {n : Nat} {S : Nat → gE} {cc : ByteArray} {maxL : Nat}
theorem g_Cp.of {ret : Option FieldType} {v : Option Value} (hy : plainName y.cls = true) (hw : ws = Cond.code y cc maxL ret :: ws') (hlen : (lg_sl av).length ≤ maxL)
    (body : ∀ (p : Program) (e : Env) (s : State) (m : MethodId) (below : List Frame) (meth : Method) (c : Code) (Q : State → Prop) (ls : Array Slot), CallFix p m c cc maxL s av.toArray ws y.cls → meth.name = y.name → g_W g n S s s.heap [] → lv_has ls maxL (lv_args 0 av) →
      (∀ (pc : Nat) (ls : Array Slot), (match v with
        | none => ret = none ∧ decode cc pc = .ok (.return_, 1)
        | some (.int x) => ∃ ty, ret = some ty ∧ narrow ty (.int x) = .int x ∧ decode cc pc = .ok (.ireturn, 1)
        | some w => ∃ C, ret = some (.object C) ∧ (w = .null ∨ ∃ a, w = .ref a) ∧ decode cc pc = .ok (.areturn, 1)) → W p l e rm s m av.toArray below meth c s.heap [] 0 0 Q (F0 m pc ls v.toList)) →
      W p l e rm s m av.toArray below meth c s.heap [] 0 0 Q (F0 m 0 ls [])) : g_Cp l y ws rm g av n S v := by
  refine Met.ofW (cc := cc) (maxL := maxL) (ret := ret) hy hw ?_
  intro p e s m args below meth c s₁ B hml hv
  obtain ⟨rfl, hS, hK⟩ := hv
  have hx := B.exec
  have hb := B.bytes
  have hr := B.returns
  have hts := atoms_spec (ws := ws) B.pre
  have hown : s.vm.findClass y.cls = some m.cls := findClass_of_methodNamed B.named
  have hlocks := B.notSynchronized
  have hin : meth.name = y.name := (name_of_methodNamed B.named B.method).1
  rw [lg_entry_eq]
  refine body p e s m below meth c _ _ ⟨hx, hb, hml, hown, hts⟩ hin ⟨hS, hK, va_S.rf⟩ (lv_entry av hlen) ?_
  intro pc ls hret
  cases v with
  | none =>
    obtain ⟨rfl, hd⟩ := hret
    exact W.vret hx hb hr (fun t ht _ => ⟨rfl, ht⟩) (fun q hq => by cases hq) hd
  | some w =>
    cases w with
    | int x =>
      obtain ⟨ty, rfl, hn, hd⟩ := hret
      exact W.zret hx hb hr hn (fun t ht _ => ⟨rfl, ht⟩) (fun q hq => by cases hq) hd
    | _ =>
      obtain ⟨C, rfl, hn, hd⟩ := hret
      exact W.aret hx hb hr (Or.inl ⟨C, rfl⟩) hn (fun t ht _ => ⟨rfl, ht⟩) (fun q hq => by cases hq) hd
theorem g_Cs.of {ret : Option FieldType} {Qp : Option Value → Nat → (Nat → gE) → Prop} {mc ms : Nat} (hy : plainName y.cls = true) (hw : ws = Cond.code y cc maxL ret :: ws') (hlen : (lg_sl av).length ≤ maxL)
    (body : ∀ (p : Program) (e : Env) (s : State) (m : MethodId) (below : List Frame) (meth : Method) (c : Code) (Q : State → Prop) (H : Heap) (locs : List Loc) (ls : Array Slot), CallFix p m c cc maxL s av.toArray ws y.cls → meth.name = y.name → g_W g n S s H locs → lv_has ls maxL (lv_args 0 av) →
      (∀ (v : Option Value) (n1 : Nat) (S1 : Nat → gE) (H : Heap) (locs : List Loc) (pc : Nat) (ls : Array Slot), g_W g n1 S1 s H locs → Qp v n1 S1 → (match v with
        | none => ret = none ∧ decode cc pc = .ok (.return_, 1)
        | some (.int x) => ∃ ty, ret = some ty ∧ narrow ty (.int x) = .int x ∧ decode cc pc = .ok (.ireturn, 1)
        | some w => ∃ C, ret = some (.object C) ∧ (w = .null ∨ ∃ a, w = .ref a) ∧ decode cc pc = .ok (.areturn, 1)) → W p l e rm s m av.toArray below meth c H locs mc ms Q (F0 m pc ls v.toList)) →
      W p l e rm s m av.toArray below meth c H locs 0 0 Q (F0 m 0 ls [])) : g_Cs l y ws rm g av n S Qp mc ms := by
  refine Met.ofW (cc := cc) (maxL := maxL) (ret := ret) hy hw ?_
  intro p e s m args below meth c s₁ B hml hv
  obtain ⟨rfl, hS, hK⟩ := hv
  have hx := B.exec
  have hb := B.bytes
  have hr := B.returns
  have hts := atoms_spec (ws := ws) B.pre
  have hown : s.vm.findClass y.cls = some m.cls := findClass_of_methodNamed B.named
  have hlocks := B.notSynchronized
  have hin : meth.name = y.name := (name_of_methodNamed B.named B.method).1
  rw [lg_entry_eq]
  refine body p e s m below meth c _ _ _ _ ⟨hx, hb, hml, hown, hts⟩ hin ⟨hS, hK, va_S.rf⟩ (lv_entry av hlen) ?_
  intro v n1 S1 H locs pc ls hw1 hq hret
  have key : ∀ t : State, t.heap = H → ∃ (v' : Option Value) (n1 : Nat) (S1 : Nat → gE), Outcome.returned v = .returned v' ∧ Qp v' n1 S1 ∧ g_S g n1 S1 t.heap ∧ va_F (g_A g) s t := fun t ht => ⟨v, n1, S1, rfl, hq, by rw [ht]; exact hw1.1, hw1.2.2.F ht⟩
  cases v with
  | none =>
    obtain ⟨rfl, hd⟩ := hret
    exact W.vret hx hb hr (fun t ht _ => key t ht) (fun q hq => hw1.2.2.2.2 q hq) hd
  | some w =>
    cases w with
    | int x =>
      obtain ⟨ty, rfl, hn, hd⟩ := hret
      exact W.zret hx hb hr hn (fun t ht _ => key t ht) (fun q hq => hw1.2.2.2.2 q hq) hd
    | _ =>
      obtain ⟨C, rfl, hn, hd⟩ := hret
      exact W.aret hx hb hr (Or.inl ⟨C, rfl⟩) hn (fun t ht _ => key t ht) (fun q hq => hw1.2.2.2.2 q hq) hd
end NNC
end
section
section NNR
variable {p : Program} {l : Launch} {e : Env} {R : Room} {s : State} {m : MethodId} {args : Array Value} {below : List Frame} {meth : Method} {c : Code} {H : Heap} {locs : List Loc} {cells slots : Nat} {Q : State → Prop}
variable {cc : ByteArray} {pc nL : Nat} {ls : Array Slot} {st : List Value} {Ts : List Cond} {own : String} {g : gG} {n : Nat} {S : Nat → gE}
/-! constants, arithmetic -/
theorem nn_iconst (hc : CallFix p m c cc nL s args Ts own) {z : Int} (d : decode cc pc = .ok (.iconst z, 1))
    (k : W p l e R s m args below meth c H locs cells slots Q (F0 m (pc + 1) ls (.int (iI z) :: st))) : W p l e R s m args below meth c H locs cells slots Q (F0 m pc ls st) := lv_iconst hc.1 hc.2.1 d rfl k
theorem nn_bipush (hc : CallFix p m c cc nL s args Ts own) {z : Int} (d : decode cc pc = .ok (.bipush z, 2)) (hz : (Int8.ofInt z).toInt32 = iI z)
    (k : W p l e R s m args below meth c H locs cells slots Q (F0 m (pc + 2) ls (.int (iI z) :: st))) : W p l e R s m args below meth c H locs cells slots Q (F0 m pc ls st) := lv_bipush hc.1 hc.2.1 d hz k
theorem nn_sipush (hc : CallFix p m c cc nL s args Ts own) {z : Int} (d : decode cc pc = .ok (.sipush z, 3)) (hz : (Int16.ofInt z).toInt32 = iI z)
    (k : W p l e R s m args below meth c H locs cells slots Q (F0 m (pc + 3) ls (.int (iI z) :: st))) : W p l e R s m args below meth c H locs cells slots Q (F0 m pc ls st) := lv_sipush hc.1 hc.2.1 d hz k
theorem nn_iadd (hc : CallFix p m c cc nL s args Ts own) {a b : Int} (d : decode cc pc = .ok (.iadd, 1))
    (k : W p l e R s m args below meth c H locs cells slots Q (F0 m (pc + 1) ls (.int (iI (a + b)) :: st))) : W p l e R s m args below meth c H locs cells slots Q (F0 m pc ls (.int (iI b) :: .int (iI a) :: st)) := lv_iadd hc.1 hc.2.1 d (by rw [iI_add]; exact k)
theorem nn_isub (hc : CallFix p m c cc nL s args Ts own) {a b : Int} (d : decode cc pc = .ok (.isub, 1))
    (k : W p l e R s m args below meth c H locs cells slots Q (F0 m (pc + 1) ls (.int (iI (a - b)) :: st))) : W p l e R s m args below meth c H locs cells slots Q (F0 m pc ls (.int (iI b) :: .int (iI a) :: st)) := lv_isub hc.1 hc.2.1 d (by rw [iI_sub]; exact k)
theorem nn_imul (hc : CallFix p m c cc nL s args Ts own) {a b : Int} (d : decode cc pc = .ok (.imul, 1))
    (k : W p l e R s m args below meth c H locs cells slots Q (F0 m (pc + 1) ls (.int (iI (a * b)) :: st))) : W p l e R s m args below meth c H locs cells slots Q (F0 m pc ls (.int (iI b) :: .int (iI a) :: st)) := lv_imul hc.1 hc.2.1 d (by rw [iI_mul]; exact k)
theorem nn_ineg (hc : CallFix p m c cc nL s args Ts own) {a : Int} (d : decode cc pc = .ok (.ineg, 1))
    (k : W p l e R s m args below meth c H locs cells slots Q (F0 m (pc + 1) ls (.int (iI (-a)) :: st))) : W p l e R s m args below meth c H locs cells slots Q (F0 m pc ls (.int (iI a) :: st)) := lv_ineg hc.1 hc.2.1 d (by rw [iI_neg]; exact k)
theorem nn_idiv (hc : CallFix p m c cc nL s args Ts own) {a b : Int} (d : decode cc pc = .ok (.idiv, 1)) (ha : 0 ≤ a ∧ a < 2147483648) (hb : 0 < b ∧ b < 2147483648)
    (k : W p l e R s m args below meth c H locs cells slots Q (F0 m (pc + 1) ls (.int (iI (a / b)) :: st))) : W p l e R s m args below meth c H locs cells slots Q (F0 m pc ls (.int (iI b) :: .int (iI a) :: st)) :=
  lv_idiv hc.1 hc.2.1 d (fun h => by rw [← iI_0, iI_eq (by omega) (by omega)] at h; omega) (by rw [iI_div ha hb]; exact k)
theorem nn_irem (hc : CallFix p m c cc nL s args Ts own) {a b : Int} (d : decode cc pc = .ok (.irem, 1)) (ha : 0 ≤ a ∧ a < 2147483648) (hb : 0 < b ∧ b < 2147483648)
    (k : W p l e R s m args below meth c H locs cells slots Q (F0 m (pc + 1) ls (.int (iI (a % b)) :: st))) : W p l e R s m args below meth c H locs cells slots Q (F0 m pc ls (.int (iI b) :: .int (iI a) :: st)) :=
  lv_irem hc.1 hc.2.1 d (fun h => by rw [← iI_0, iI_eq (by omega) (by omega)] at h; omega) (by rw [iI_rem ha hb]; exact k)
theorem nn_iinc (hc : CallFix p m c cc nL s args Ts own) {i k0 : Nat} {z a : Int} {lv lv' : List (Nat × Value)} (d : decode cc pc = .ok (.iinc i z, 3)) (h : lv_has ls nL lv) (hk : lv[k0]? = some (i, .int (iI a))) (hn : i < nL) (hl : (i, Value.int (iI (a + z))) :: lv.filter (fun q => !(q.1 == i) && !(q.1 + 1 == i && q.2.category == 2)) = lv')
    (kk : ∀ ls' : Array Slot, lv_has ls' nL lv' → W p l e R s m args below meth c H locs cells slots Q (F0 m (pc + 3) ls' st)) : W p l e R s m args below meth c H locs cells slots Q (F0 m pc ls st) :=
  lv_iinc hc.1 hc.2.1 d h hk (by rw [← iI_add]; rfl) hn hl kk
/-! branches -/
theorem nn_if_eq (hc : CallFix p m c cc nL s args Ts own) {a : Int} {off : Int} {tgt : Nat} (d : decode cc pc = .ok (.ifCond .eq off, 3)) (ht : (pc : Int) + off = (tgt : Int)) (ha : -2147483648 ≤ a ∧ a < 2147483648)
    (kt : a = 0 → W p l e R s m args below meth c H locs cells slots Q (F0 m tgt ls st)) (kf : a ≠ 0 → W p l e R s m args below meth c H locs cells slots Q (F0 m (pc + 3) ls st)) : W p l e R s m args below meth c H locs cells slots Q (F0 m pc ls (.int (iI a) :: st)) :=
  lv_if_eq hc.1 hc.2.1 d ht (fun h => kt (by rw [← iI_0, iI_eq ha (by omega)] at h; exact h)) (fun h => kf (fun q => h (by rw [q]; rfl)))
theorem nn_if_ne (hc : CallFix p m c cc nL s args Ts own) {a : Int} {off : Int} {tgt : Nat} (d : decode cc pc = .ok (.ifCond .ne off, 3)) (ht : (pc : Int) + off = (tgt : Int)) (ha : -2147483648 ≤ a ∧ a < 2147483648)
    (kt : a ≠ 0 → W p l e R s m args below meth c H locs cells slots Q (F0 m tgt ls st)) (kf : a = 0 → W p l e R s m args below meth c H locs cells slots Q (F0 m (pc + 3) ls st)) : W p l e R s m args below meth c H locs cells slots Q (F0 m pc ls (.int (iI a) :: st)) :=
  lv_if_ne hc.1 hc.2.1 d ht (fun h => kt (fun q => h (by rw [q]; rfl))) (fun h => kf (by
    have h' : iI a = 0 := h
    rw [← iI_0, iI_eq ha (by omega)] at h'; exact h'))
theorem nn_if_lt (hc : CallFix p m c cc nL s args Ts own) {a : Int} {off : Int} {tgt : Nat} (d : decode cc pc = .ok (.ifCond .lt off, 3)) (ht : (pc : Int) + off = (tgt : Int)) (ha : -2147483648 ≤ a ∧ a < 2147483648)
    (kt : a < 0 → W p l e R s m args below meth c H locs cells slots Q (F0 m tgt ls st)) (kf : 0 ≤ a → W p l e R s m args below meth c H locs cells slots Q (F0 m (pc + 3) ls st)) : W p l e R s m args below meth c H locs cells slots Q (F0 m pc ls (.int (iI a) :: st)) :=
  lv_if_lt hc.1 hc.2.1 d ht (fun h => kt (by rw [← iI_0, iI_lt ha (by omega)] at h; exact h)) (fun h => kf (by rw [← iI_0, iI_lt ha (by omega)] at h; omega))
theorem nn_if_ge (hc : CallFix p m c cc nL s args Ts own) {a : Int} {off : Int} {tgt : Nat} (d : decode cc pc = .ok (.ifCond .ge off, 3)) (ht : (pc : Int) + off = (tgt : Int)) (ha : -2147483648 ≤ a ∧ a < 2147483648)
    (kt : 0 ≤ a → W p l e R s m args below meth c H locs cells slots Q (F0 m tgt ls st)) (kf : a < 0 → W p l e R s m args below meth c H locs cells slots Q (F0 m (pc + 3) ls st)) : W p l e R s m args below meth c H locs cells slots Q (F0 m pc ls (.int (iI a) :: st)) :=
  lv_if_ge hc.1 hc.2.1 d ht (fun h => kt (by rw [← iI_0, iI_le (by omega) ha] at h; exact h)) (fun h => kf (by rw [← iI_0, iI_le (by omega) ha] at h; omega))
theorem nn_if_gt (hc : CallFix p m c cc nL s args Ts own) {a : Int} {off : Int} {tgt : Nat} (d : decode cc pc = .ok (.ifCond .gt off, 3)) (ht : (pc : Int) + off = (tgt : Int)) (ha : -2147483648 ≤ a ∧ a < 2147483648)
    (kt : 0 < a → W p l e R s m args below meth c H locs cells slots Q (F0 m tgt ls st)) (kf : a ≤ 0 → W p l e R s m args below meth c H locs cells slots Q (F0 m (pc + 3) ls st)) : W p l e R s m args below meth c H locs cells slots Q (F0 m pc ls (.int (iI a) :: st)) :=
  lv_if_gt hc.1 hc.2.1 d ht (fun h => kt (by rw [← iI_0, iI_lt (by omega) ha] at h; exact h)) (fun h => kf (by rw [← iI_0, iI_lt (by omega) ha] at h; omega))
theorem nn_if_le (hc : CallFix p m c cc nL s args Ts own) {a : Int} {off : Int} {tgt : Nat} (d : decode cc pc = .ok (.ifCond .le off, 3)) (ht : (pc : Int) + off = (tgt : Int)) (ha : -2147483648 ≤ a ∧ a < 2147483648)
    (kt : a ≤ 0 → W p l e R s m args below meth c H locs cells slots Q (F0 m tgt ls st)) (kf : 0 < a → W p l e R s m args below meth c H locs cells slots Q (F0 m (pc + 3) ls st)) : W p l e R s m args below meth c H locs cells slots Q (F0 m pc ls (.int (iI a) :: st)) :=
  lv_if_le hc.1 hc.2.1 d ht (fun h => kt (by rw [← iI_0, iI_le ha (by omega)] at h; exact h)) (fun h => kf (by rw [← iI_0, iI_le ha (by omega)] at h; omega))
theorem nn_icmp_eq (hc : CallFix p m c cc nL s args Ts own) {a b : Int} {off : Int} {tgt : Nat} (d : decode cc pc = .ok (.if_icmp .eq off, 3)) (ht : (pc : Int) + off = (tgt : Int)) (ha : -2147483648 ≤ a ∧ a < 2147483648) (hb : -2147483648 ≤ b ∧ b < 2147483648)
    (kt : a = b → W p l e R s m args below meth c H locs cells slots Q (F0 m tgt ls st)) (kf : a ≠ b → W p l e R s m args below meth c H locs cells slots Q (F0 m (pc + 3) ls st)) : W p l e R s m args below meth c H locs cells slots Q (F0 m pc ls (.int (iI b) :: .int (iI a) :: st)) :=
  lv_icmp_eq hc.1 hc.2.1 d ht (fun h => kt ((iI_eq ha hb).mp h)) (fun h => kf (fun q => h (by rw [q])))
theorem nn_icmp_ne (hc : CallFix p m c cc nL s args Ts own) {a b : Int} {off : Int} {tgt : Nat} (d : decode cc pc = .ok (.if_icmp .ne off, 3)) (ht : (pc : Int) + off = (tgt : Int)) (ha : -2147483648 ≤ a ∧ a < 2147483648) (hb : -2147483648 ≤ b ∧ b < 2147483648)
    (kt : a ≠ b → W p l e R s m args below meth c H locs cells slots Q (F0 m tgt ls st)) (kf : a = b → W p l e R s m args below meth c H locs cells slots Q (F0 m (pc + 3) ls st)) : W p l e R s m args below meth c H locs cells slots Q (F0 m pc ls (.int (iI b) :: .int (iI a) :: st)) :=
  lv_icmp_ne hc.1 hc.2.1 d ht (fun h => kt (fun q => h (by rw [q]))) (fun h => kf ((iI_eq ha hb).mp h))
theorem nn_icmp_lt (hc : CallFix p m c cc nL s args Ts own) {a b : Int} {off : Int} {tgt : Nat} (d : decode cc pc = .ok (.if_icmp .lt off, 3)) (ht : (pc : Int) + off = (tgt : Int)) (ha : -2147483648 ≤ a ∧ a < 2147483648) (hb : -2147483648 ≤ b ∧ b < 2147483648)
    (kt : a < b → W p l e R s m args below meth c H locs cells slots Q (F0 m tgt ls st)) (kf : b ≤ a → W p l e R s m args below meth c H locs cells slots Q (F0 m (pc + 3) ls st)) : W p l e R s m args below meth c H locs cells slots Q (F0 m pc ls (.int (iI b) :: .int (iI a) :: st)) :=
  lv_icmp_lt hc.1 hc.2.1 d ht (fun h => kt ((iI_lt ha hb).mp h)) (fun h => kf (by rw [iI_lt ha hb] at h; omega))
theorem nn_icmp_ge (hc : CallFix p m c cc nL s args Ts own) {a b : Int} {off : Int} {tgt : Nat} (d : decode cc pc = .ok (.if_icmp .ge off, 3)) (ht : (pc : Int) + off = (tgt : Int)) (ha : -2147483648 ≤ a ∧ a < 2147483648) (hb : -2147483648 ≤ b ∧ b < 2147483648)
    (kt : b ≤ a → W p l e R s m args below meth c H locs cells slots Q (F0 m tgt ls st)) (kf : a < b → W p l e R s m args below meth c H locs cells slots Q (F0 m (pc + 3) ls st)) : W p l e R s m args below meth c H locs cells slots Q (F0 m pc ls (.int (iI b) :: .int (iI a) :: st)) :=
  lv_icmp_ge hc.1 hc.2.1 d ht (fun h => kt ((iI_le hb ha).mp h)) (fun h => kf (by
    have h' : ¬ iI b ≤ iI a := h
    rw [iI_le hb ha] at h'; omega))
theorem nn_icmp_gt (hc : CallFix p m c cc nL s args Ts own) {a b : Int} {off : Int} {tgt : Nat} (d : decode cc pc = .ok (.if_icmp .gt off, 3)) (ht : (pc : Int) + off = (tgt : Int)) (ha : -2147483648 ≤ a ∧ a < 2147483648) (hb : -2147483648 ≤ b ∧ b < 2147483648)
    (kt : b < a → W p l e R s m args below meth c H locs cells slots Q (F0 m tgt ls st)) (kf : a ≤ b → W p l e R s m args below meth c H locs cells slots Q (F0 m (pc + 3) ls st)) : W p l e R s m args below meth c H locs cells slots Q (F0 m pc ls (.int (iI b) :: .int (iI a) :: st)) :=
  lv_icmp_gt hc.1 hc.2.1 d ht (fun h => kt ((iI_lt hb ha).mp h)) (fun h => kf (by
    have h' : ¬ iI b < iI a := h
    rw [iI_lt hb ha] at h'; omega))
theorem nn_icmp_le (hc : CallFix p m c cc nL s args Ts own) {a b : Int} {off : Int} {tgt : Nat} (d : decode cc pc = .ok (.if_icmp .le off, 3)) (ht : (pc : Int) + off = (tgt : Int)) (ha : -2147483648 ≤ a ∧ a < 2147483648) (hb : -2147483648 ≤ b ∧ b < 2147483648)
    (kt : a ≤ b → W p l e R s m args below meth c H locs cells slots Q (F0 m tgt ls st)) (kf : b < a → W p l e R s m args below meth c H locs cells slots Q (F0 m (pc + 3) ls st)) : W p l e R s m args below meth c H locs cells slots Q (F0 m pc ls (.int (iI b) :: .int (iI a) :: st)) :=
  lv_icmp_le hc.1 hc.2.1 d ht (fun h => kt ((iI_le ha hb).mp h)) (fun h => kf (by rw [iI_le ha hb] at h; omega))
/-! fields -/
theorem nn_get (hc : CallFix p m c cc nL s args Ts own) (hw : g_W g n S s H locs) {C : String} {T : u_T} {N ci index : Nat} {a : Nat} {fs : List Value} (hS : S a = oO ci fs) (hin : ∀ w ∈ u_ws C T N, w ∈ Ts) (hci : vwCl[ci]? = some (C, T, N)) (k : Nat) (hk : k < N) {v : Value} (hv : fs[k]? = some v) (hlink : Cond.fieldLink own index (T k).1 (T k).2.1 (T k).2.2.1 ∈ Ts) (d : decode cc pc = .ok (.getfield index, 3))
    (kk : W p l e R s m args below meth c H locs cells slots Q (F0 m (pc + 3) ls (v :: st))) : W p l e R s m args below meth c H locs cells slots Q (F0 m pc ls (.ref a :: st)) := by
  obtain ⟨-, -, hat⟩ := hw.1.2.2 a _ hS
  exact va_get (D := g.1) (ws := [(a, .inr (ci, fs))]) (cl := vwCl) (tys := g_T g) hc.1 hc.2.1 hc.2.2.2.2 hin hc.2.2.2.1 hw.2.1.1 (fun k q hk => by
    have hz : k < 1 := (List.getElem?_eq_some_iff.mp hk).1
    rw [show k = 0 by omega] at hk
    cases hk
    exact hat) 0 rfl hci k hk (hc.2.2.2.2 _ hlink) (fun _ h => h) hv d kk
theorem nn_put (hc : CallFix p m c cc nL s args Ts own) (hw : g_W g n S s H locs) {C : String} {T : u_T} {N ci index : Nat} {a : Nat} {fs : List Value} (hS : S a = oO ci fs) (hin : ∀ w ∈ u_ws C T N, w ∈ Ts) (ty0 : Nat → FieldType) (hty : ∀ k, k < N → parseFieldDescriptor (T k).2.2.1 = some (ty0 k)) (hnm : ∀ a, a < N → ∀ b, b < N → a ≠ b → (T a).2.1 ≠ (T b).2.1) (hci : vwCl[ci]? = some (C, T, N)) (k : Nat) (hk : k < N) (hl : k < fs.length) {v : Value} (hlink : Cond.fieldLink own index (T k).1 (T k).2.1 (T k).2.2.1 ∈ Ts) (hfin : (T k).2.2.2 = false) (hn : narrow (ty0 k) v = v) (hfit : fits (ty0 k) v = true) (d : decode cc pc = .ok (.putfield index, 3))
    (kk : ∀ (S1 : Nat → gE) (H1 : Heap) (locs1 : List Loc), S1 a = oO ci (fs.set k v) → (∀ b, b ≠ a → S1 b = S b) → g_W g n S1 s H1 locs1 → W p l e R s m args below meth c H1 locs1 cells slots Q (F0 m (pc + 3) ls st)) : W p l e R s m args below meth c H locs cells slots Q (F0 m pc ls (v :: .ref a :: st)) := by
  obtain ⟨hexec, hb, -, hown, hts⟩ := hc
  have hK := hw.2.1.1
  obtain ⟨-, -, hat⟩ := hw.1.2.2 a _ hS
  have hap := va_apart (own := own) hts hin ty0 hty hnm hK hci
  obtain ⟨r, h1, cell, q1, q2, q3, q4⟩ := hat
  have hr : r = (C, T, N) := Option.some.inj (h1.symm.trans hci)
  subst hr
  obtain ⟨hSl, hfc, kC, hkC, hkind⟩ := hK.1 ci _ hci
  obtain ⟨cf, kf, fi, f, hi, hsl⟩ := hSl k hk
  have hlay := hts _ (hin _ (u_in_lay hk))
  unfold u_lay at hlay
  rw [if_neg (by rw [hfin]; decide)] at hlay
  have hst := (u_facts hfc hkC (u_lays hts hin hk) hi).1
  have h6 := u_store hfc hkC hkind hlay hi (hty k hk) hn hfit
  refine W.putK hexec hb (f := f) ⟨hown, hts _ hlink, ⟨_, _, _, hi⟩, hst⟩ (by rw [q2]; exact h6) q1 q3 (by rw [hsl]; exact k2_hasslot (q4 k hk)) rfl rfl d fun H' e1 e2 e3 => ?_
  rw [hsl] at e1 ⊢
  exact kk (va_up S a (oO ci (fs.set k v))) H' _ (va_up_self _ _ _) (fun b hb => va_up_ne _ _ hb) (hw.set hS ⟨_, hci, t_OB.to (V := updV (vp_V fs) k v) ⟨_, e1, q2, q3, t_set q4 hap hk v⟩ (fun j _ => vp_updV_set hl v j)⟩ e2 e3 (fun q hq => by rw [List.mem_singleton.mp hq]))
theorem nn_putF (hc : CallFix p m c cc nL s args Ts own) (hin2 : meth.name = "<init>") (hw : g_W g n S s H locs) {C : String} {T : u_T} {N ci index : Nat} {a : Nat} {fs : List Value} (hS : S a = oO ci fs) (hin : ∀ w ∈ u_ws C T N, w ∈ Ts) (ty0 : Nat → FieldType) (hty : ∀ k, k < N → parseFieldDescriptor (T k).2.2.1 = some (ty0 k)) (hnm : ∀ a, a < N → ∀ b, b < N → a ≠ b → (T a).2.1 ≠ (T b).2.1) (hci : vwCl[ci]? = some (C, T, N)) (k : Nat) (hk : k < N) (hl : k < fs.length) {v : Value} (hlink : Cond.fieldLink own index (T k).1 (T k).2.1 (T k).2.2.1 ∈ Ts) (hfin : (T k).2.2.2 = true) (hdecl : (T k).1 = own) (hn : narrow (ty0 k) v = v) (hfit : fits (ty0 k) v = true) (d : decode cc pc = .ok (.putfield index, 3))
    (kk : ∀ (S1 : Nat → gE) (H1 : Heap) (locs1 : List Loc), S1 a = oO ci (fs.set k v) → (∀ b, b ≠ a → S1 b = S b) → g_W g n S1 s H1 locs1 → W p l e R s m args below meth c H1 locs1 cells slots Q (F0 m (pc + 3) ls st)) : W p l e R s m args below meth c H locs cells slots Q (F0 m pc ls (v :: .ref a :: st)) := by
  obtain ⟨hexec, hb, -, hown, hts⟩ := hc
  have hK := hw.2.1.1
  obtain ⟨-, -, hat⟩ := hw.1.2.2 a _ hS
  have hap := va_apart (own := own) hts hin ty0 hty hnm hK hci
  obtain ⟨r, h1, cell, q1, q2, q3, q4⟩ := hat
  have hr : r = (C, T, N) := Option.some.inj (h1.symm.trans hci)
  subst hr
  obtain ⟨hSl, hfc, kC, hkC, hkind⟩ := hK.1 ci _ hci
  obtain ⟨cf, kf, fi, f, hi, hsl⟩ := hSl k hk
  have hlay := hts _ (hin _ (u_in_lay hk))
  unfold u_lay at hlay
  rw [if_pos hfin] at hlay
  have hst := (u_facts hfc hkC (u_lays hts hin hk) hi).1
  have hcf : m.cls = cf := by
    obtain ⟨_, _, c', _, _, _, -, -, hf', -, -, -, hown2, -⟩ := Cond.laysFinal_spec hlay
    have e1 : c' = cf := by have := hi.symm.trans hf'; simp at this; exact this.1.symm
    rw [hdecl] at hown2
    rw [← e1]; exact Option.some.inj (hown.symm.trans hown2)
  have h6 := u_fits hfc hkC hkind (Or.inr hlay) hi (hty k hk) hn hfit
  refine W.putFinK hexec hb hown (hts _ hlink) hi hst hcf hin2 (by rw [q2]; exact h6) q1 q3 (by rw [hsl]; exact k2_hasslot (q4 k hk)) rfl rfl d fun H' e1 e2 e3 => ?_
  rw [hsl] at e1 ⊢
  exact kk (va_up S a (oO ci (fs.set k v))) H' _ (va_up_self _ _ _) (fun b hb => va_up_ne _ _ hb) (hw.set hS ⟨_, hci, t_OB.to (V := updV (vp_V fs) k v) ⟨_, e1, q2, q3, t_set q4 hap hk v⟩ (fun j _ => vp_updV_set hl v j)⟩ e2 e3 (fun q hq => by rw [List.mem_singleton.mp hq]))
/-! arrays -/
theorem nn_iald (hc : CallFix p m c cc nL s args Ts own) (hw : g_W g n S s H locs) {a N : Nat} {f : Nat → Int} (hS : S a = oI g N f) {i : Int} (hi : 0 ≤ i ∧ i < N) (hN : N < 2147483648) (d : decode cc pc = .ok (.iaload, 1))
    (kk : W p l e R s m args below meth c H locs cells slots Q (F0 m (pc + 1) ls (.int (iI (f i.toNat)) :: st))) : W p l e R s m args below meth c H locs cells slots Q (F0 m pc ls (.int (iI i) :: .ref a :: st)) := by
  obtain ⟨-, -, hat⟩ := hw.1.2.2 a _ hS
  refine va_iald (D := g.1) (ws := [(a, .inl (g.2.1 0, N, .inl (fun j => iI (f j))))]) (cl := vwCl) (tys := g_T g) hc.1 hc.2.1 hw.2.1.1 (fun k q hk => by
    have hz : k < 1 := (List.getElem?_eq_some_iff.mp hk).1
    rw [show k = 0 by omega] at hk
    cases hk
    exact hat) 0 0 rfl rfl (iI_in hi hN) d ?_
  rw [iI_nat (by omega)]
  exact kk
theorem nn_cald (hc : CallFix p m c cc nL s args Ts own) (hw : g_W g n S s H locs) {a N : Nat} {f : Nat → Int} (hS : S a = oC g N f) {i : Int} (hi : 0 ≤ i ∧ i < N) (hN : N < 2147483648) (d : decode cc pc = .ok (.caload, 1))
    (kk : W p l e R s m args below meth c H locs cells slots Q (F0 m (pc + 1) ls (.int (iI (f i.toNat)) :: st))) : W p l e R s m args below meth c H locs cells slots Q (F0 m pc ls (.int (iI i) :: .ref a :: st)) := by
  obtain ⟨-, -, hat⟩ := hw.1.2.2 a _ hS
  refine va_cald (D := g.1) (ws := [(a, .inl (g.2.1 1, N, .inl (fun j => iI (f j))))]) (cl := vwCl) (tys := g_T g) hc.1 hc.2.1 hw.2.1.1 (fun k q hk => by
    have hz : k < 1 := (List.getElem?_eq_some_iff.mp hk).1
    rw [show k = 0 by omega] at hk
    cases hk
    exact hat) 0 1 rfl rfl (iI_in hi hN) d ?_
  rw [iI_nat (by omega)]
  exact kk
theorem nn_aald (hc : CallFix p m c cc nL s args Ts own) (hw : g_W g n S s H locs) {a N t : Nat} {f : Nat → Option Nat} (hS : S a = oR g t N f) {C : String} (ht : (g_T g)[t]? = some (g.2.1 t, .object C)) {i : Int} (hi : 0 ≤ i ∧ i < N) (hN : N < 2147483648) {x : Option Nat} (hx : f i.toNat = x) (d : decode cc pc = .ok (.aaload, 1))
    (kk : W p l e R s m args below meth c H locs cells slots Q (F0 m (pc + 1) ls (va_rf x :: st))) : W p l e R s m args below meth c H locs cells slots Q (F0 m pc ls (.int (iI i) :: .ref a :: st)) := by
  obtain ⟨-, -, hat⟩ := hw.1.2.2 a _ hS
  refine va_aldq (D := g.1) (ws := [(a, .inl (g.2.1 t, N, .inr (.inr (.inr (.inr f)))))]) (cl := vwCl) (tys := g_T g) hc.1 hc.2.1 hw.2.1.1 (fun k q hk => by
    have hz : k < 1 := (List.getElem?_eq_some_iff.mp hk).1
    rw [show k = 0 by omega] at hk
    cases hk
    exact hat) 0 t rfl ht (iI_in hi hN) d ?_
  rw [iI_nat (by omega), hx]
  exact kk
theorem nn_iast (hc : CallFix p m c cc nL s args Ts own) (hw : g_W g n S s H locs) {a N : Nat} {f : Nat → Int} (hS : S a = oI g N f) {i x : Int} (hi : 0 ≤ i ∧ i < N) (hN : N < 2147483648) (d : decode cc pc = .ok (.iastore, 1))
    (kk : ∀ (S1 : Nat → gE) (H1 : Heap) (locs1 : List Loc), S1 a = oI g N (va_up f i.toNat x) → (∀ b, b ≠ a → S1 b = S b) → g_W g n S1 s H1 locs1 → W p l e R s m args below meth c H1 locs1 cells slots Q (F0 m (pc + 1) ls st)) : W p l e R s m args below meth c H locs cells slots Q (F0 m pc ls (.int (iI x) :: .int (iI i) :: .ref a :: st)) := by
  obtain ⟨-, -, hat⟩ := hw.1.2.2 a _ hS
  refine W.iast hc.1 hc.2.1 hat ((hw.2.1.1.2 0 _ rfl).1 N (fun j => .int (iI (f j)))) (fun q => by cases q) (by show ¬ (iI i < 0 ∨ (arrV _ _ _).slots.size ≤ _); rw [arrV_size]; exact iI_in hi hN) rfl rfl d fun H1 e1 z oq => ?_
  refine kk (va_up S a (oI g N (va_up f i.toNat x))) H1 _ (va_up_self _ _ _) (fun b hb => va_up_ne _ _ hb) (hw.set hS ?_ z oq (fun q hq => by rw [List.mem_singleton.mp hq]))
  show H1[a]? = some (vp_cell _ _)
  rw [e1, vp_cell_i, vp_cell_i, arrV_store, iI_nat (by omega)]
  congr 2
  funext q
  by_cases hq : q = i.toNat
  · subst hq
    simp [updV, va_up]
  · simp [updV, va_up, hq]
theorem nn_cast (hc : CallFix p m c cc nL s args Ts own) (hw : g_W g n S s H locs) {a N : Nat} {f : Nat → Int} (hS : S a = oC g N f) {i x : Int} (hi : 0 ≤ i ∧ i < N) (hN : N < 2147483648) (hx : vp_nar .char (iI x) = iI x) (d : decode cc pc = .ok (.castore, 1))
    (kk : ∀ (S1 : Nat → gE) (H1 : Heap) (locs1 : List Loc), S1 a = oC g N (va_up f i.toNat x) → (∀ b, b ≠ a → S1 b = S b) → g_W g n S1 s H1 locs1 → W p l e R s m args below meth c H1 locs1 cells slots Q (F0 m (pc + 1) ls st)) : W p l e R s m args below meth c H locs cells slots Q (F0 m pc ls (.int (iI x) :: .int (iI i) :: .ref a :: st)) := by
  obtain ⟨-, -, hat⟩ := hw.1.2.2 a _ hS
  refine W.cast hc.1 hc.2.1 hat ((hw.2.1.1.2 1 _ rfl).1 N (fun j => .int (iI (f j)))) (fun q => by cases q) (by show ¬ (iI i < 0 ∨ (arrV _ _ _).slots.size ≤ _); rw [arrV_size]; exact iI_in hi hN) rfl rfl d fun H1 e1 z oq => ?_
  refine kk (va_up S a (oC g N (va_up f i.toNat x))) H1 _ (va_up_self _ _ _) (fun b hb => va_up_ne _ _ hb) (hw.set hS ?_ z oq (fun q hq => by rw [List.mem_singleton.mp hq]))
  show H1[a]? = some (vp_cell _ _)
  have hx' : narrow .char (.int (iI x)) = .int (iI x) := by
    have h := hx
    unfold vp_nar at h
    simpa [narrow] using h
  rw [e1, vp_cell_i, vp_cell_i, arrV_store, iI_nat (by omega)]
  congr 2
  funext q
  by_cases hq : q = i.toNat
  · subst hq
    simp [updV, va_up, hx']
  · simp [updV, va_up, hq]
theorem nn_aast (hc : CallFix p m c cc nL s args Ts own) (hw : g_W g n S s H locs) {a N t : Nat} {f : Nat → Option Nat} (hS : S a = oR g t N f) {r : vw_C} {v ci : Nat} {vs : List Value} (ht : (g_T g)[t]? = some (g.2.1 t, .object r.1)) (hv : S v = oO ci vs) (hci : vwCl[ci]? = some r) {i : Int} (hi : 0 ≤ i ∧ i < N) (hN : N < 2147483648) (d : decode cc pc = .ok (.aastore, 1))
    (kk : ∀ (S1 : Nat → gE) (H1 : Heap) (locs1 : List Loc), S1 a = oR g t N (va_up f i.toNat (some v)) → (∀ b, b ≠ a → S1 b = S b) → g_W g n S1 s H1 locs1 → W p l e R s m args below meth c H1 locs1 cells slots Q (F0 m (pc + 1) ls st)) : W p l e R s m args below meth c H locs cells slots Q (F0 m pc ls (.ref v :: .int (iI i) :: .ref a :: st)) := by
  obtain ⟨-, -, hat⟩ := hw.1.2.2 a _ hS
  obtain ⟨-, -, hav⟩ := hw.1.2.2 v _ hv
  have hin := iI_in hi hN
  have hlt : (iI i).toNatClampNeg < N := Nat.not_le.mp fun q => hin (Or.inr q)
  have h0 : ¬ iI i < 0 := fun q => hin (Or.inl q)
  have hK := hw.2.1.1
  obtain ⟨r', hr', cellV, g1, g2, g3, -⟩ := hav
  have hcls := (hK.1 ci r hci).2
  obtain ⟨kA, comp, k1, k2, k3, -⟩ := (hK.2 t _ ht).2
  have hcomp : comp = g.1.1 ci := Option.some.inj (k3.symm.trans hcls.1)
  subst hcomp
  obtain ⟨kC, hkC, -⟩ := hcls.2
  refine W.aast hc.1 hc.2.1 hat (fun q h => by cases h) (fun h => by cases h) k1 k2 rfl hkC ⟨h0, by show _ < (arrV _ _ _).slots.size; rw [arrV_size]; exact hlt⟩ g1 (fun q h => by rw [g3] at h; cases h) (by rw [g2]; exact hkC) (by rw [g2]; exact va_assign hcls) rfl rfl d fun H1 e1 z oq => ?_
  refine kk (va_up S a (oR g t N (va_up f i.toNat (some v)))) H1 _ (va_up_self _ _ _) (fun b hb => va_up_ne _ _ hb) (hw.set hS ?_ z oq (fun q hq => by rw [List.mem_singleton.mp hq]))
  show H1[a]? = some (vp_cell _ _)
  rw [e1, vp_cell_q, vp_cell_q, arrV_store, iI_nat (by omega)]
  congr 2
  funext q
  by_cases hq : q = i.toNat
  · subst hq
    simp [updV, va_up, va_rf]
  · simp [updV, va_up, hq]
end NNR
end
section
section NNK
variable {p : Program} {l : Launch} {e : Env} {R : Room} {s : State} {m : MethodId} {args : Array Value} {below : List Frame} {meth : Method} {c : Code} {H : Heap} {locs : List Loc} {cells slots : Nat} {Q : State → Prop}
variable {cc : ByteArray} {pc nL : Nat} {ls : Array Slot} {st st0 : List Value} {Ts : List Cond} {own : String} {g : gG} {n : Nat} {S : Nat → gE}
variable {y : MethodName} {bytes : ByteArray} {maxL mc ms na index : Nat} {ret : Option FieldType} {ws : List Cond} {rm : Room} {C : String} {T : u_T} {N ci b : Nat} {As : List Value}
theorem g_blind {av : List Value} : FrameBlind (va_Pc av (fun U => g_S g n S U.heap ∧ g_K g U)) := fun a U f mk q => ⟨q.1, q.2.1, g_K.same (u := U) (U := U.calling f mk a) rfl q.2.2⟩
theorem g_recv (hw : g_W g n S s H locs) {fs : List Value} (hS : S b = oO ci fs) (hci : vwCl[ci]? = some (C, T, N)) : ∃ cell : Cell, H[b]? = some cell ∧ cell.vm.isStatics = false ∧ s.vm.findClass C = some cell.cls := by
  obtain ⟨-, -, hat⟩ := hw.1.2.2 b _ hS
  obtain ⟨q', h1, cell, g1, g2, g3, -⟩ := hat
  exact ⟨cell, g1, by rw [g3]; rfl, by rw [g2]; exact (hw.2.1.1.1 ci _ hci).2.1⟩
theorem g_pre (hw : g_W g n S s H locs) (av : List Value) : ∀ U : State, U.heap = H → s.WarmedH U.vm → va_Pc av (fun U => g_S g n S U.heap ∧ g_K g U) av.toArray U := fun U hU hW => ⟨rfl, by rw [hU]; exact hw.1, hw.2.1.moved hW⟩
theorem nn_goP {v : Option Value} {f : JFrame} (hr : va_Run p l e R s m args below meth c H locs cells slots 0 0 f st (fun s0 oc t => oc = .returned v ∧ t.heap = s0.heap) (fun _ => False)) (kk : W p l e R s m args below meth c H locs cells slots Q { f with pc := f.pc + 3, stack := v.toList ++ st }) : W p l e R s m args below meth c H locs cells slots Q f := by
  intro T1 hT X
  obtain ⟨v', st₀, t, T', L, h0, X', hL, e1, e2, ⟨hv, hh⟩, stp⟩ := hr T1 hT X
  cases hv
  obtain ⟨t2, a1, b1⟩ := kk T' (by rw [e1, hh, h0]) (Stand.forget X' (fun q h => (hL q h).elim))
  exact ⟨t2, stp t2 a1, b1⟩
theorem nn_goS {Qp : Option Value → Nat → (Nat → gE) → Prop} {f : JFrame} (hw : g_W g n S s H locs) (hr : va_Run p l e R s m args below meth c H locs cells slots mc ms f st (fun s0 oc t => ∃ (v : Option Value) (n1 : Nat) (S1 : Nat → gE), oc = .returned v ∧ Qp v n1 S1 ∧ g_S g n1 S1 t.heap ∧ va_F (g_A g) s0 t) (g_A g))
    (kk : ∀ (v : Option Value) (n1 : Nat) (S1 : Nat → gE) (H1 : Heap) (locs1 : List Loc), Qp v n1 S1 → g_W g n1 S1 s H1 locs1 → W p l e R s m args below meth c H1 locs1 (cells + mc) (slots + ms) Q { f with pc := f.pc + 3, stack := v.toList ++ st }) : W p l e R s m args below meth c H locs cells slots Q f := by
  intro T1 hT X
  obtain ⟨v', st₀, t, T', L, h0, X', hL, e1, e2, ⟨v, n1, S1, hv, hq, hs, hz, hk⟩, stp⟩ := hr T1 hT X
  cases hv
  rw [h0] at hz hk
  obtain ⟨-, h2, h3, h4, h5⟩ := hw
  obtain ⟨t2, a1, b1⟩ := kk _ n1 S1 T'.heap (locs ++ L) hq ⟨by rw [e1]; exact hs, h2, Nat.le_trans h3 (by rw [e1]; exact hz), fun q g1 g2 => by rw [e1, hk q (Nat.lt_of_lt_of_le g1 h3) g2]; exact h4 q g1 g2, fun q hq => by
      rcases List.mem_append.mp hq with h | h
      · exact h5 q h
      · exact hL q h⟩ T' rfl X'
  exact ⟨t2, stp t2 a1, b1⟩
theorem nn_Vp {v : Option Value} (hc : CallFix p m c cc nL s args Ts own) (hw : g_W g n S s H locs) {fs : List Value} (hS : S b = oO ci fs) (hci : vwCl[ci]? = some (C, T, N)) (hM : g_Cp l y ws rm g (.ref b :: As) n S v) (cw : CallW R s args own C index y bytes maxL ret ws rm 0 0 na) (hn : As.length = na) (hl : ls.size = nL) (hst : st0 = As.reverse ++ .ref b :: st) (hW : (st.map fun v => v.category).sum ≤ 8) (hf : cells ≤ R.cells ∧ slots ≤ R.slots) (d : decode cc pc = .ok (.invokevirtual index, 3))
    (kk : W p l e R s m args below meth c H locs cells slots Q (F0 m (pc + 3) ls (v.toList ++ st))) : W p l e R s m args below meth c H locs cells slots Q (F0 m pc ls st0) :=
  nn_goP (va_runV hc hM cw ⟨g_blind, g_recv hw hS hci, g_pre hw _⟩ rfl hn hl hst (lv_room hW) d hf) kk
theorem nn_Sp {v : Option Value} (hc : CallFix p m c cc nL s args Ts own) (hw : g_W g n S s H locs) (hM : g_Cp l y ws rm g As n S v) (cw : CallB R s args own index y bytes maxL ret ws rm 0 0 na ∧ (Cond.static y).before args s = true) (hn : As.length = na) (hl : ls.size = nL) (hst : st0 = As.reverse ++ st) (hW : (st.map fun v => v.category).sum ≤ 8) (hf : cells ≤ R.cells ∧ slots ≤ R.slots) (d : decode cc pc = .ok (.invokestatic index, 3))
    (kk : W p l e R s m args below meth c H locs cells slots Q (F0 m (pc + 3) ls (v.toList ++ st))) : W p l e R s m args below meth c H locs cells slots Q (F0 m pc ls st0) :=
  nn_goP (va_runS hc hM cw ⟨g_blind, g_pre hw _⟩ rfl hn hl hst (lv_room hW) d hf) kk
theorem nn_Vs {Qp : Option Value → Nat → (Nat → gE) → Prop} (hc : CallFix p m c cc nL s args Ts own) (hw : g_W g n S s H locs) {fs : List Value} (hS : S b = oO ci fs) (hci : vwCl[ci]? = some (C, T, N)) (hM : g_Cs l y ws rm g (.ref b :: As) n S Qp mc ms) (cw : CallW R s args own C index y bytes maxL ret ws rm mc ms na) (hn : As.length = na) (hl : ls.size = nL) (hst : st0 = As.reverse ++ .ref b :: st) (hW : (st.map fun v => v.category).sum ≤ 8) (hf : cells + mc ≤ R.cells ∧ slots + ms ≤ R.slots) (d : decode cc pc = .ok (.invokevirtual index, 3))
    (kk : ∀ (v : Option Value) (n1 : Nat) (S1 : Nat → gE) (H1 : Heap) (locs1 : List Loc), Qp v n1 S1 → g_W g n1 S1 s H1 locs1 → W p l e R s m args below meth c H1 locs1 (cells + mc) (slots + ms) Q (F0 m (pc + 3) ls (v.toList ++ st))) : W p l e R s m args below meth c H locs cells slots Q (F0 m pc ls st0) :=
  nn_goS hw (va_runV hc hM cw ⟨g_blind, g_recv hw hS hci, g_pre hw _⟩ rfl hn hl hst (lv_room hW) d hf) kk
theorem nn_Ss {Qp : Option Value → Nat → (Nat → gE) → Prop} (hc : CallFix p m c cc nL s args Ts own) (hw : g_W g n S s H locs) (hM : g_Cs l y ws rm g As n S Qp mc ms) (cw : CallB R s args own index y bytes maxL ret ws rm mc ms na ∧ (Cond.static y).before args s = true) (hn : As.length = na) (hl : ls.size = nL) (hst : st0 = As.reverse ++ st) (hW : (st.map fun v => v.category).sum ≤ 8) (hf : cells + mc ≤ R.cells ∧ slots + ms ≤ R.slots) (d : decode cc pc = .ok (.invokestatic index, 3))
    (kk : ∀ (v : Option Value) (n1 : Nat) (S1 : Nat → gE) (H1 : Heap) (locs1 : List Loc), Qp v n1 S1 → g_W g n1 S1 s H1 locs1 → W p l e R s m args below meth c H1 locs1 (cells + mc) (slots + ms) Q (F0 m (pc + 3) ls (v.toList ++ st))) : W p l e R s m args below meth c H locs cells slots Q (F0 m pc ls st0) :=
  nn_goS hw (va_runS hc hM cw ⟨g_blind, g_pre hw _⟩ rfl hn hl hst (lv_room hW) d hf) kk
theorem nn_Is {Qp : Option Value → Nat → (Nat → gE) → Prop} (hc : CallFix p m c cc nL s args Ts own) (hw : g_W g n S s H locs) (hM : g_Cs l y ws rm g (.ref b :: As) n S Qp mc ms) (cw : CallB R s args own index y bytes maxL none ws rm mc ms na ∧ y.name = "<init>" ∧ (Cond.instanceMethod y).before args s = true) (hn : As.length = na) (hl : ls.size = nL) (hst : st0 = As.reverse ++ .ref b :: st) (hW : (st.map fun v => v.category).sum ≤ 8) (hf : cells + mc ≤ R.cells ∧ slots + ms ≤ R.slots) (d : decode cc pc = .ok (.invokespecial index, 3))
    (kk : ∀ (v : Option Value) (n1 : Nat) (S1 : Nat → gE) (H1 : Heap) (locs1 : List Loc), Qp v n1 S1 → g_W g n1 S1 s H1 locs1 → W p l e R s m args below meth c H1 locs1 (cells + mc) (slots + ms) Q (F0 m (pc + 3) ls (v.toList ++ st))) : W p l e R s m args below meth c H locs cells slots Q (F0 m pc ls st0) :=
  nn_goS hw (va_runI hc hM cw ⟨g_blind, g_pre hw _⟩ rfl hn hl hst (lv_room hW) d hf) kk
theorem g_nw (hw : g_W g n S s H locs) (q : String × Nat × MethodName) (hq : q ∈ g_nest) : va_Nw (.methodLinkNest q.1 q.2.1 q.2.2 "RoofCourses") s := hw.2.1.2.1 q hq
theorem nn_SpN {v : Option Value} {host : String} (hc : CallFix p m c cc nL s args Ts own) (hw : g_W g n S s H locs) (hM : g_Cp l y ws rm g As n S v) (cw : va_CN R s args own index y host bytes maxL ret ws rm 0 0 na) (hstat : Cond.static y ∈ Ts) (hn : As.length = na) (hl : ls.size = nL) (hst : st0 = As.reverse ++ st) (hW : (st.map fun v => v.category).sum ≤ 8) (hf : cells ≤ R.cells ∧ slots ≤ R.slots) (d : decode cc pc = .ok (.invokestatic index, 3))
    (kk : W p l e R s m args below meth c H locs cells slots Q (F0 m (pc + 3) ls (v.toList ++ st))) : W p l e R s m args below meth c H locs cells slots Q (F0 m pc ls st0) :=
  nn_goP (va_runSN hc hM ⟨cw, hc.2.2.2.2 _ hstat, trivial⟩ ⟨g_blind, g_pre hw _⟩ rfl hn hl hst (lv_room hW) d hf) kk
theorem nn_IsN {Qp : Option Value → Nat → (Nat → gE) → Prop} {host : String} (hc : CallFix p m c cc nL s args Ts own) (hw : g_W g n S s H locs) (hM : g_Cs l y ws rm g (.ref b :: As) n S Qp mc ms) (cw : va_CN R s args own index y host bytes maxL none ws rm mc ms na) (hy : y.name = "<init>") (hinst : Cond.instanceMethod y ∈ Ts) (hn : As.length = na) (hl : ls.size = nL) (hst : st0 = As.reverse ++ .ref b :: st) (hW : (st.map fun v => v.category).sum ≤ 8) (hf : cells + mc ≤ R.cells ∧ slots + ms ≤ R.slots) (d : decode cc pc = .ok (.invokespecial index, 3))
    (kk : ∀ (v : Option Value) (n1 : Nat) (S1 : Nat → gE) (H1 : Heap) (locs1 : List Loc), Qp v n1 S1 → g_W g n1 S1 s H1 locs1 → W p l e R s m args below meth c H1 locs1 (cells + mc) (slots + ms) Q (F0 m (pc + 3) ls (v.toList ++ st))) : W p l e R s m args below meth c H locs cells slots Q (F0 m pc ls st0) :=
  nn_goS hw (va_runIN hc hM ⟨cw, hy, hc.2.2.2.2 _ hinst⟩ ⟨g_blind, g_pre hw _⟩ rfl hn hl hst (lv_room hW) d hf) kk
/-! Math -/
theorem nn_max (hc : CallFix p m c cc nL s args Ts own) (hl : ls.size = nL) {a b : Int} (ha : -2147483648 ≤ a ∧ a < 2147483648) (hb : -2147483648 ≤ b ∧ b < 2147483648) (hlink : Cond.methodLink own index Lib.Math.max.name ∈ Ts) (hstat : Cond.static Lib.Math.max.name ∈ Ts) (hini : Cond.initialized "java/lang/Math" ∈ Ts) (hcode : Cond.code Lib.Math.max.name Lib.Math.max.code 2 (some .int) ∈ Ts) (hfr : 1 ≤ R.frames) (hlo : (st.map fun v => v.category).sum + 13 ≤ R.locals) (hf : cells ≤ R.cells ∧ slots ≤ R.slots) (d : decode cc pc = .ok (.invokestatic index, 3))
    (kk : W p l e R s m args below meth c H locs cells slots Q (F0 m (pc + 3) ls (.int (iI (if a < b then b else a)) :: st))) : W p l e R s m args below meth c H locs cells slots Q (F0 m pc ls (.int (iI b) :: .int (iI a) :: st)) := by
  have ht := hc.2.2.2.2
  refine va_mmax hc.1 hc.2.1 (hc.2.2.1.trans hl.symm) hc.2.2.2.1 (ht _ hlink) (ht _ hstat) (ht _ hini) (ht _ hcode) hfr hlo hf.1 hf.2 d ?_
  have e1 : (if iI a < iI b then iI b else iI a) = iI (if a < b then b else a) := by
    by_cases h : a < b
    · rw [if_pos ((iI_lt ha hb).mpr h), if_pos h]
    · rw [if_neg (fun q => h ((iI_lt ha hb).mp q)), if_neg h]
  rw [e1]
  exact kk
theorem nn_abs (hc : CallFix p m c cc nL s args Ts own) (hl : ls.size = nL) {a : Int} (ha : -2147483647 ≤ a ∧ a < 2147483648) (hlink : Cond.methodLink own index Lib.Math.abs.name ∈ Ts) (hstat : Cond.static Lib.Math.abs.name ∈ Ts) (hini : Cond.initialized "java/lang/Math" ∈ Ts) (hcode : Cond.code Lib.Math.abs.name Lib.Math.abs.code 1 (some .int) ∈ Ts) (hfr : 1 ≤ R.frames) (hlo : (st.map fun v => v.category).sum + 13 ≤ R.locals) (hf : cells ≤ R.cells ∧ slots ≤ R.slots) (d : decode cc pc = .ok (.invokestatic index, 3))
    (kk : W p l e R s m args below meth c H locs cells slots Q (F0 m (pc + 3) ls (.int (iI (if 0 ≤ a then a else -a)) :: st))) : W p l e R s m args below meth c H locs cells slots Q (F0 m pc ls (.int (iI a) :: st)) := by
  have ht := hc.2.2.2.2
  refine va_mabs hc.1 hc.2.1 (hc.2.2.1.trans hl.symm) hc.2.2.2.1 (ht _ hlink) (ht _ hstat) (ht _ hini) (ht _ hcode) hfr hlo hf.1 hf.2 d ?_
  have e0 : (0 ≤ iI a) ↔ 0 ≤ a := by rw [← iI_0]; exact iI_le (by omega) (by omega)
  have e1 : (if 0 ≤ iI a then iI a else 0 - iI a) = iI (if 0 ≤ a then a else -a) := by
    by_cases h : 0 ≤ a
    · rw [if_pos (e0.mpr h), if_pos h]
    · rw [if_neg (fun q => h (e0.mp q)), if_neg h, ← iI_0, iI_sub]
      congr 1
      omega
  rw [e1]
  exact kk
/-! answers -/
theorem nn_nb (P : Prop) [Decidable P] : narrow .boolean (.int (iI (if P then 1 else 0))) = .int (iI (if P then 1 else 0)) := by
  split <;> rfl
end NNK
end
section
/-! ===== plain words ===== -/
/-- each of the first J joints is br or more from pl -/
def brk (ed : Nat → Int) (br pl : Int) : Nat → Bool
  | 0 => true
  | j + 1 => brk ed br pl j && decide (br ≤ ed j - pl ∨ br ≤ pl - ed j)
theorem brk_iff {ed : Nat → Int} {br pl : Int} : ∀ {J : Nat}, brk ed br pl J = true ↔ ∀ i : Nat, i < J → br ≤ ed i - pl ∨ br ≤ pl - ed i
  | 0 => ⟨fun _ i hi => absurd hi (Nat.not_lt_zero i), fun _ => rfl⟩
  | j + 1 => by
    have ih := brk_iff (ed := ed) (br := br) (pl := pl) (J := j)
    simp only [brk, Bool.and_eq_true, decide_eq_true_eq, ih]
    constructor
    · intro h i hi
      rcases Nat.lt_or_ge i j with q | q
      · exact h.1 i q
      · have e1 : i = j := by omega
        subst e1; exact h.2
    · intro h
      exact ⟨fun i hi => h i (by omega), h j (by omega)⟩
/-- values that are far from the ends -/
def sm (f : Nat → Int) (N : Nat) : Prop := ∀ i : Nat, i < N → -100000000 ≤ f i ∧ f i ≤ 100000000
/-- the last, the first place below n at which q holds; -4: there is none -/
def lstI (q : Nat → Bool) : Nat → Int
  | 0 => -4
  | n + 1 => if q n = true then (n : Int) else lstI q n
def fstI (q : Nat → Bool) : Nat → Int
  | 0 => -4
  | n + 1 => if fstI q n = -4 then (if q n = true then (n : Int) else -4) else fstI q n
/-- the greatest v of 1 .. n at which q holds; -4: there is none -/
def cutI (q : Nat → Bool) : Nat → Int
  | 0 => -4
  | n + 1 => if q (n + 1) = true then ((n + 1 : Nat) : Int) else cutI q n
theorem lstI_hit {q : Nat → Bool} {h : Int} (h0 : 0 ≤ h) (hq : q h.toNat = true) : lstI q (h + 1).toNat = h := by
  rw [show (h + 1).toNat = h.toNat + 1 by omega, lstI, if_pos hq]
  omega
theorem lstI_miss {q : Nat → Bool} {h : Int} (h0 : 0 ≤ h) (hq : q h.toNat = false) : lstI q (h + 1).toNat = lstI q h.toNat := by
  rw [show (h + 1).toNat = h.toNat + 1 by omega, lstI, if_neg (by rw [hq]; decide)]
theorem cutI_hit {q : Nat → Bool} {h : Int} (h0 : 1 ≤ h) (hq : q h.toNat = true) : cutI q h.toNat = h := by
  obtain ⟨k, hk⟩ : ∃ k : Nat, h.toNat = k + 1 := ⟨h.toNat - 1, by omega⟩
  rw [hk] at hq ⊢
  rw [cutI, if_pos hq]
  omega
theorem cutI_miss {q : Nat → Bool} {h : Int} (h0 : 1 ≤ h) (hq : q h.toNat = false) : cutI q h.toNat = cutI q (h - 1).toNat := by
  obtain ⟨k, hk⟩ : ∃ k : Nat, h.toNat = k + 1 := ⟨h.toNat - 1, by omega⟩
  rw [show (h - 1).toNat = k by omega]
  rw [hk] at hq ⊢
  rw [cutI, if_neg (by rw [hq]; decide)]
theorem fstI_none {q : Nat → Bool} : ∀ {n : Nat}, fstI q n = -4 ↔ ∀ i : Nat, i < n → q i = false
  | 0 => ⟨fun _ i hi => absurd hi (Nat.not_lt_zero i), fun _ => rfl⟩
  | n + 1 => by
    have ih := fstI_none (q := q) (n := n)
    rw [fstI]
    constructor
    · intro h i hi
      by_cases hf : fstI q n = -4
      · rw [if_pos hf] at h
        by_cases hq : q n = true
        · rw [if_pos hq] at h; omega
        · rcases Nat.lt_or_ge i n with z | z
          · exact ih.mp hf i z
          · have e1 : i = n := by omega
            rw [e1]
            exact Bool.eq_false_iff.mpr hq
      · rw [if_neg hf] at h; exact absurd h hf
    · intro h
      rw [if_pos (ih.mpr (fun i hi => h i (by omega))), if_neg (by rw [h n (by omega)]; decide)]
theorem fstI_some {q : Nat → Bool} : ∀ {n h : Nat}, h < n → q h = true → (∀ i : Nat, i < h → q i = false) → fstI q n = h
  | 0, h, hh, _, _ => absurd hh (Nat.not_lt_zero h)
  | n + 1, h, hh, hq, hb => by
    rw [fstI]
    rcases Nat.lt_or_ge h n with z | z
    · have e1 := fstI_some z hq hb
      rw [if_neg (by rw [e1]; omega), e1]
    · have e1 : h = n := by omega
      subst e1
      rw [if_pos (fstI_none.mpr hb), if_pos hq]
theorem fstI_spec {q : Nat → Bool} : ∀ {n : Nat}, fstI q n = -4 ∨ ∃ h : Nat, fstI q n = h ∧ h < n ∧ q h = true ∧ ∀ i : Nat, i < h → q i = false
  | 0 => Or.inl rfl
  | n + 1 => by
    rcases fstI_spec (q := q) (n := n) with h | ⟨h, h1, h2, h3, h4⟩
    · by_cases hq : q n = true
      · refine Or.inr ⟨n, ?_, by omega, hq, fstI_none.mp h⟩
        rw [fstI, if_pos h, if_pos hq]
      · refine Or.inl ?_
        rw [fstI, if_pos h, if_neg hq]
    · exact Or.inr ⟨h, by rw [fstI, if_neg (by rw [h1]; omega), h1], by omega, h3, h4⟩
theorem lstI_none {q : Nat → Bool} : ∀ {n : Nat}, lstI q n = -4 ↔ ∀ i : Nat, i < n → q i = false
  | 0 => ⟨fun _ i hi => absurd hi (Nat.not_lt_zero i), fun _ => rfl⟩
  | n + 1 => by
    have ih := lstI_none (q := q) (n := n)
    rw [lstI]
    constructor
    · intro h i hi
      by_cases hq : q n = true
      · rw [if_pos hq] at h; omega
      · rw [if_neg hq] at h
        rcases Nat.lt_or_ge i n with z | z
        · exact ih.mp h i z
        · have e1 : i = n := by omega
          rw [e1]
          exact Bool.eq_false_iff.mpr hq
    · intro h
      rw [if_neg (by rw [h n (by omega)]; decide)]
      exact ih.mpr (fun i hi => h i (by omega))
theorem lstI_spec {q : Nat → Bool} : ∀ {n : Nat}, lstI q n = -4 ∨ ∃ h : Nat, lstI q n = h ∧ h < n ∧ q h = true ∧ ∀ i : Nat, h < i → i < n → q i = false
  | 0 => Or.inl rfl
  | n + 1 => by
    by_cases hq : q n = true
    · exact Or.inr ⟨n, by rw [lstI, if_pos hq], by omega, hq, fun i h1 h2 => absurd h1 (by omega)⟩
    · rcases lstI_spec (q := q) (n := n) with h | ⟨h, h1, h2, h3, h4⟩
      · exact Or.inl (by rw [lstI, if_neg hq]; exact h)
      · refine Or.inr ⟨h, by rw [lstI, if_neg hq]; exact h1, by omega, h3, fun i g1 g2 => ?_⟩
        rcases Nat.lt_or_ge i n with z | z
        · exact h4 i g1 z
        · have e1 : i = n := by omega
          rw [e1]
          exact Bool.eq_false_iff.mpr hq
/-- a heap of the length that has slates; one that ends the course; one whose joint is broken -/
def srv (ln rs : Nat → Int) (L : Int) (h : Nat) : Bool := decide (ln h = L ∧ 0 < rs h)
def pE (ln br rs : Nat → Int) (L R p : Int) (h : Nat) : Bool := srv ln rs L h && decide (R ≤ p + br h)
def pB (ln br rs : Nat → Int) (L : Int) (ed : Nat → Int) (bk : Int) (J : Nat) (p : Int) (h : Nat) : Bool := srv ln rs L h && brk ed bk (p + br h) J
theorem srv_iff {ln rs : Nat → Int} {L : Int} {h : Nat} : srv ln rs L h = true ↔ ln h = L ∧ 0 < rs h := by simp [srv]
theorem pE_iff {ln br rs : Nat → Int} {L R p : Int} {h : Nat} : pE ln br rs L R p h = true ↔ (ln h = L ∧ 0 < rs h) ∧ R ≤ p + br h := by simp [pE, srv]
theorem pB_iff {ln br rs : Nat → Int} {L : Int} {ed : Nat → Int} {bk : Int} {J : Nat} {p : Int} {h : Nat} : pB ln br rs L ed bk J p h = true ↔ (ln h = L ∧ 0 < rs h) ∧ brk ed bk (p + br h) J = true := by simp [pB, srv]
theorem b_no {b : Bool} {P : Prop} (h : b = true ↔ P) (hp : ¬ P) : b = false := Bool.eq_false_iff.mpr (fun q => hp (h.mp q))
end
section
section NNN
variable {p : Program} {l : Launch} {e : Env} {R : Room} {s : State} {m : MethodId} {args : Array Value} {below : List Frame} {meth : Method} {c : Code} {H : Heap} {locs : List Loc} {cells slots : Nat} {Q : State → Prop}
variable {cc : ByteArray} {pc nL : Nat} {ls : Array Slot} {st : List Value} {Ts : List Cond} {own : String} {g : gG} {n : Nat} {S : Nat → gE}
theorem nn_new (hc : CallFix p m c cc nL s args Ts own) (hw : g_W g n S s H locs) {C : String} {T : u_T} {N ci index : Nat} (hin : ∀ w ∈ u_ws C T N, w ∈ Ts) (ty : Nat → FieldType) (hty : ∀ k, k < N → parseFieldDescriptor (T k).2.2.1 = some (ty k)) (hcl : Cond.classLink own index C ∈ Ts) (hinst : Cond.instantiable C N ∈ Ts) (hini : Cond.initialized C ∈ Ts) (hci : vwCl[ci]? = some (C, T, N)) (fs : List Value) (hfs : ∀ j, j < N → defaultValue (ty j) = vp_V fs j) (hcells : cells + 1 ≤ R.cells) (hslots : slots + N ≤ R.slots) (d : decode cc pc = .ok (.new index, 3))
    (kk : ∀ (S1 : Nat → gE) (H1 : Heap), S1 n = oO ci fs → (∀ b, b ≠ n → S1 b = S b) → g_W g (n + 1) S1 s H1 locs → W p l e R s m args below meth c H1 locs (cells + 1) (slots + N) Q (F0 m (pc + 3) ls (.ref n :: st))) : W p l e R s m args below meth c H locs cells slots Q (F0 m pc ls st) := by
  obtain ⟨hexec, hb, -, hown, hts⟩ := hc
  have hKn := hw.2.1.1.1 ci _ hci
  refine W.newcK hexec hb hown (hts _ hcl) (hts _ hinst) (hts _ hini) rfl d hcells hslots hKn.2.1 hw.1.1 fun H1 kC hkC e1 z1 o1 => ?_
  exact kk (va_up S n (oO ci fs)) H1 (va_up_self _ _ _) (fun b hb => va_up_ne _ _ hb) (hw.push ⟨_, hci, (u_born ty hts hin hKn hkC e1 hty).to hfs⟩ z1 o1)
theorem nn_newI (hc : CallFix p m c cc nL s args Ts own) (hw : g_W g n S s H locs) (harr : Cond.arrayClass .int ∈ Ts) {z : Int} {N : Nat} (hz : 0 ≤ z ∧ z < 2147483648) (hN : z.toNat = N) (hbytes : N * componentBytes .int ≤ 536870912) (hcells : cells + 1 ≤ R.cells) (hslots : slots + N ≤ R.slots) (d : decode cc pc = .ok (.newarray .int, 2))
    (kk : ∀ (S1 : Nat → gE) (H1 : Heap), S1 n = oI g N (fun _ => 0) → (∀ b, b ≠ n → S1 b = S b) → g_W g (n + 1) S1 s H1 locs → W p l e R s m args below meth c H1 locs (cells + 1) (slots + N) Q (F0 m (pc + 2) ls (.ref n :: st))) : W p l e R s m args below meth c H locs cells slots Q (F0 m pc ls (.int (iI z) :: st)) := by
  obtain ⟨hexec, hb, -, hown, hts⟩ := hc
  have h0 : ¬ iI z < 0 := by rw [← iI_0, iI_lt (by omega) (by omega)]; omega
  refine va_newaK (atype := .int) hexec hb (hts _ harr) rfl d (N := N) rfl h0 (by rw [iI_nat hz, hN]) hbytes hcells hslots hw.1.1 fun H1 cA e1 z1 o1 hAr hNm => ?_
  have hcA : cA = g.2.1 0 := by
    have h1 : s.vm.findClass ("[" ++ (FieldType.int).toString) = some (g.2.1 0) := (hw.2.1.1.2 0 _ rfl).2
    exact Option.some.inj (hNm.symm.trans h1)
  subst hcA
  exact kk (va_up S n (oI g N (fun _ => 0))) H1 (va_up_self _ _ _) (fun b hb => va_up_ne _ _ hb) (hw.push (show H1[n]? = some (vp_cell _ _) from e1) z1 o1)
theorem nn_newC (hc : CallFix p m c cc nL s args Ts own) (hw : g_W g n S s H locs) (harr : Cond.arrayClass .char ∈ Ts) {z : Int} {N : Nat} (hz : 0 ≤ z ∧ z < 2147483648) (hN : z.toNat = N) (hbytes : N * componentBytes .char ≤ 536870912) (hcells : cells + 1 ≤ R.cells) (hslots : slots + N ≤ R.slots) (d : decode cc pc = .ok (.newarray .char, 2))
    (kk : ∀ (S1 : Nat → gE) (H1 : Heap), S1 n = oC g N (fun _ => 0) → (∀ b, b ≠ n → S1 b = S b) → g_W g (n + 1) S1 s H1 locs → W p l e R s m args below meth c H1 locs (cells + 1) (slots + N) Q (F0 m (pc + 2) ls (.ref n :: st))) : W p l e R s m args below meth c H locs cells slots Q (F0 m pc ls (.int (iI z) :: st)) := by
  obtain ⟨hexec, hb, -, hown, hts⟩ := hc
  have h0 : ¬ iI z < 0 := by rw [← iI_0, iI_lt (by omega) (by omega)]; omega
  refine va_newaK (atype := .char) hexec hb (hts _ harr) rfl d (N := N) rfl h0 (by rw [iI_nat hz, hN]) hbytes hcells hslots hw.1.1 fun H1 cA e1 z1 o1 hAr hNm => ?_
  have hcA : cA = g.2.1 1 := by
    have h1 : s.vm.findClass ("[" ++ (FieldType.char).toString) = some (g.2.1 1) := (hw.2.1.1.2 1 _ rfl).2
    exact Option.some.inj (hNm.symm.trans h1)
  subst hcA
  exact kk (va_up S n (oC g N (fun _ => 0))) H1 (va_up_self _ _ _) (fun b hb => va_up_ne _ _ hb) (hw.push (show H1[n]? = some (vp_cell _ _) from e1) z1 o1)
theorem nn_newQ (hc : CallFix p m c cc nL s args Ts own) (hw : g_W g n S s H locs) {C : String} {t index : Nat} (hcl : Cond.classLink own index C ∈ Ts) (hover : va_AO C s) (ht : (g_T g)[t]? = some (g.2.1 t, .object C)) {z : Int} {N : Nat} (hz : 0 ≤ z ∧ z < 2147483648) (hN : z.toNat = N) (hbytes : N * 4 ≤ 536870912) (hcells : cells + 1 ≤ R.cells) (hslots : slots + N ≤ R.slots) (d : decode cc pc = .ok (.anewarray index, 3))
    (kk : ∀ (S1 : Nat → gE) (H1 : Heap), S1 n = oR g t N (fun _ => none) → (∀ b, b ≠ n → S1 b = S b) → g_W g (n + 1) S1 s H1 locs → W p l e R s m args below meth c H1 locs (cells + 1) (slots + N) Q (F0 m (pc + 3) ls (.ref n :: st))) : W p l e R s m args below meth c H locs cells slots Q (F0 m pc ls (.int (iI z) :: st)) := by
  obtain ⟨hexec, hb, -, hown, hts⟩ := hc
  have h0 : ¬ iI z < 0 := by rw [← iI_0, iI_lt (by omega) (by omega)]; omega
  have hzn : (iI z).toNatClampNeg = N := by rw [iI_nat hz, hN]
  subst hzn
  refine W.anew hexec hb hown (hts _ hcl) (va_AO.use hover) rfl d rfl h0 hbytes hcells hslots fun cA kA comp f1 f2 f3 f4 => ?_
  have hsz := hw.1.1
  subst hsz
  generalize hH1 : H.push ({ cls := cA, slots := Array.replicate (iI z).toNatClampNeg .null, vm := .none } : Cell) = H1
  have z1 : H1.size = H.size + 1 := by rw [← hH1, Array.size_push]
  have e1 : H1[H.size]? = some (arrV cA (iI z).toNatClampNeg (fun _ => .null)) := by rw [← hH1, Array.getElem?_push_size, ← arrV_new]
  have o1 : ∀ q : Nat, q < H.size → H1[q]? = H[q]? := fun q hq => by rw [← hH1, Array.getElem?_push, if_neg (Nat.ne_of_lt hq)]
  have hcA : cA = g.2.1 t := by
    obtain ⟨kA', comp', g1, g2, g3, g4⟩ := (hw.2.1.1.2 t _ ht).2
    exact Option.some.inj (f1.symm.trans g4)
  subst hcA
  exact kk (va_up S H.size (oR g t (iI z).toNatClampNeg (fun _ => none))) H1 (va_up_self _ _ _) (fun b hb => va_up_ne _ _ hb) (hw.push (show H1[H.size]? = some (vp_cell _ _) from by rw [vp_cell_q]; exact e1) z1 o1)
/-- System.arraycopy of k ints from the place 0 on -/
theorem nn_copy (hc : CallFix p m c cc nL s args Ts own) (hl : ls.size = nL) (hw : g_W g n S s H locs) {index : Nat} (hlink : Cond.methodLink own index arraycopyName ∈ Ts) (hnat : Cond.native arraycopyName ∈ Ts) (hstat : Cond.static arraycopyName ∈ Ts) (hini : Cond.initialized "java/lang/System" ∈ Ts) {a0 a n0 n1 : Nat} {f h : Nat → Int} (hS0 : S a0 = oI g n0 f) (hS1 : S a = oI g n1 h) {z : Int} (hz : 0 ≤ z ∧ z < 2147483648) (h4 : z.toNat ≤ n0) (h5 : z.toNat ≤ n1)
    (hframes : 1 ≤ R.frames) (hlocals : (st.map fun v => v.category).sum + (nativeFrameWords "java/lang/System" "arraycopy" 5 + 11) ≤ R.locals) (d : decode cc pc = .ok (.invokestatic index, 3))
    (kk : ∀ (S1 : Nat → gE) (H1 : Heap) (locs1 : List Loc), S1 a = oI g n1 (va_cpy f h 0 0 z.toNat) → (∀ b, b ≠ a → S1 b = S b) → g_W g n S1 s H1 locs1 → W p l e R s m args below meth c H1 locs1 cells slots Q (F0 m (pc + 3) ls st)) : W p l e R s m args below meth c H locs cells slots Q (F0 m pc ls (.int (iI z) :: .int (iI 0) :: .ref a :: .int (iI 0) :: .ref a0 :: st)) := by
  obtain ⟨hexec, hb, hml, hown, hts⟩ := hc
  have nz : (iI z).toNatClampNeg = z.toNat := iI_nat hz
  have n00 : (iI 0).toNatClampNeg = 0 := rfl
  have hzi : (iI z).toInt = z := iI_toInt (by omega)
  have h0i : (iI 0).toInt = 0 := rfl
  intro T hT X
  obtain ⟨-, -, hat0⟩ := hw.1.2.2 a0 _ hS0
  obtain ⟨-, -, hat1⟩ := hw.1.2.2 a _ hS1
  have hc0 : H[a0]? = some (vp_cell (g.2.1 0) (n0, .inl (fun j => iI (f j)))) := hat0
  have hc1 : H[a]? = some (vp_cell (g.2.1 0) (n1, .inl (fun j => iI (h j)))) := hat1
  obtain ⟨-, k0, hk0, cm0, hkk0⟩ := (hw.2.1.1.2 0 _ rfl).1 n0 (fun j => .int (iI (f j)))
  obtain ⟨-, k1, hk1, cm1, hkk1⟩ := (hw.2.1.1.2 0 _ rfl).1 n1 (fun j => .int (iI (h j)))
  obtain ⟨vm', X', step⟩ := X.arraycopy hexec hown (hts _ hlink) (hts _ hnat) (hts _ hstat) (hts _ hini) (src := a0) (dst := a) (cs := vp_cell (g.2.1 0) (n0, .inl (fun j => iI (f j)))) (cd := vp_cell (g.2.1 0) (n1, .inl (fun j => iI (h j)))) (srcPos := iI 0) (destPos := iI 0) (n := iI z) (by rw [hT]; exact hc0) (by rw [hT]; exact hc1)
    (fun _ h => by cases h) (fun _ h => by cases h) (fun h => by cases h) (fun h => by cases h) hk0 hk1 hkk0 hkk1 (by simp [refKind]) (by decide) (by decide) (by rw [← iI_0, iI_lt (by omega) (by omega)]; omega)
    (by rw [hzi, h0i]; show ¬ _ > ((arrV (g.2.1 0) n0 (fun j => .int (iI (f j)))).slots.size : Int); rw [arrV_size]; omega)
    (by rw [hzi, h0i]; show ¬ _ > ((arrV (g.2.1 0) n1 (fun j => .int (iI (h j)))).slots.size : Int); rw [arrV_size]; omega)
    (fun vm₁ _ i hi => by
      have e : (vp_cell (g.2.1 0) (n0, .inl (fun j => iI (f j)))).slots.getD ((iI 0).toNatClampNeg + i) .null = .int (iI (f ((iI 0).toNatClampNeg + i))) := by
        show (arrV (g.2.1 0) n0 (fun j => .int (iI (f j)))).slots.getD _ _ = _
        rw [Array.getD_eq_getD_getElem?, arrV_read _ _ (by rw [nz] at hi; rw [n00]; omega)]
        rfl
      refine ⟨?_, ?_⟩
      · rw [e]
        rfl
      · rw [e]
        exact trivial)
    (g := F0 m pc ls (.int (iI z) :: .int (iI 0) :: .ref a :: .int (iI 0) :: .ref a0 :: st)) rfl (by rw [hml]; exact hl) (rest := st) rfl (by rw [hb]; exact d) hframes (by show 2 * 0 + _ + _ ≤ _; omega)
  have e1 : copied (vp_cell (g.2.1 0) (n0, .inl (fun j => iI (f j)))) (vp_cell (g.2.1 0) (n1, .inl (fun j => iI (h j)))) (iI 0) (iI 0) (iI z) = vp_cell (g.2.1 0) (n1, .inl (va_cpy (fun j => iI (f j)) (fun j => iI (h j)) (iI 0).toNatClampNeg (iI 0).toNatClampNeg (iI z).toNatClampNeg)) := va_copied (fun z => .int z) (g.2.1 0) (g.2.1 0) (fun j => iI (f j)) (fun j => iI (h j)) (by rw [nz, n00]; omega)
  have e2 : va_cpy (fun j => iI (f j)) (fun j => iI (h j)) (iI 0).toNatClampNeg (iI 0).toNatClampNeg (iI z).toNatClampNeg = (fun j => iI (va_cpy f h 0 0 z.toNat j)) := by
    funext j
    rw [nz, n00]
    unfold va_cpy
    split <;> rfl
  rw [e2] at e1
  rw [e1] at X' step
  have hl : a < H.size := (Array.getElem?_eq_some_iff.mp hc1).1
  have hheap : ((T.setVm vm').setCell a (vp_cell (g.2.1 0) (n1, .inl (fun j => iI (va_cpy f h 0 0 z.toNat j))))).heap = H.setIfInBounds a (vp_cell (g.2.1 0) (n1, .inl (fun j => iI (va_cpy f h 0 0 z.toNat j)))) := by rw [← hT]; rfl
  have oq : ∀ q : Nat, q ≠ a → (H.setIfInBounds a (vp_cell (g.2.1 0) (n1, .inl (fun j => iI (va_cpy f h 0 0 z.toNat j)))))[q]? = H[q]? := fun q hq => by simp [Array.getElem?_setIfInBounds, Ne.symm hq]
  obtain ⟨t, a1, b1⟩ := kk (va_up S a (oI g n1 (va_cpy f h 0 0 z.toNat))) _ _ (va_up_self _ _ _) (fun b hb => va_up_ne _ _ hb) (hw.set hS1 (show (H.setIfInBounds a _)[a]? = some _ by simp [Array.getElem?_setIfInBounds, hl]) (by simp) oq (fun q hq => by
      obtain ⟨z, -, hz⟩ := List.mem_map.mp hq
      rw [← hz])) _ hheap X'
  exact ⟨t, step t a1, b1⟩
/-! switches -/
theorem nn_tab (hc : CallFix p m c cc nL s args Ts own) {dflt lo hi : Int} {offs : Array Int} {len : Nat} {x : Int} (hx : -2147483648 ≤ x ∧ x < 2147483648) (d : decode cc pc = .ok (.tableswitch dflt lo hi offs, len)) (off : Int → Int) (ho : ∀ z : Int, lo ≤ z → z ≤ hi → offs[(z - lo).toNat]? = some (off z))
    (kd : x < lo ∨ hi < x → ∀ tgt : Nat, (pc : Int) + dflt = (tgt : Int) → W p l e R s m args below meth c H locs cells slots Q (F0 m tgt ls st))
    (kk : lo ≤ x → x ≤ hi → ∀ tgt : Nat, (pc : Int) + off x = (tgt : Int) → W p l e R s m args below meth c H locs cells slots Q (F0 m tgt ls st)) (hp : 0 ≤ (pc : Int) + dflt ∧ ∀ z : Int, lo ≤ z → z ≤ hi → 0 ≤ (pc : Int) + off z) : W p l e R s m args below meth c H locs cells slots Q (F0 m pc ls (.int (iI x) :: st)) := by
  by_cases h : x < lo ∨ hi < x
  · exact lv_tableOut (tgt := ((pc : Int) + dflt).toNat) hc.1 hc.2.1 d (by rw [iI_toInt hx]; exact h) (by omega) (kd h _ (by omega))
  · have h1 : lo ≤ x := by omega
    have h2 : x ≤ hi := by omega
    have h3 := hp.2 x h1 h2
    exact lv_tableIn (tgt := ((pc : Int) + off x).toNat) hc.1 hc.2.1 d (by rw [iI_toInt hx]; omega) (by rw [iI_toInt hx]; omega) (by rw [iI_toInt hx]; exact ho x h1 h2) (by omega) (kk h1 h2 _ (by omega))
end NNN
section NNS
variable {p : Program} {l : Launch} {e : Env} {R : Room} {s : State} {m : MethodId} {args : Array Value} {below : List Frame} {meth : Method} {c : Code} {H : Heap} {locs : List Loc} {cells slots : Nat} {Q : State → Prop}
variable {cc : ByteArray} {pc nL : Nat} {ls : Array Slot} {st : List Value} {Ts : List Cond} {own : String}
theorem nn_tabIn (hc : CallFix p m c cc nL s args Ts own) {dflt lo hi : Int} {offs : Array Int} {len : Nat} {x : Int} (z : Int) {off : Int} {tgt : Nat} (hxz : x = z) (hz : (iI z).toInt = z) (h1 : lo ≤ z) (h2 : z ≤ hi) (d : decode cc pc = .ok (.tableswitch dflt lo hi offs, len)) (ho : offs[(z - lo).toNat]? = some off) (ht : (pc : Int) + off = (tgt : Int))
    (k : W p l e R s m args below meth c H locs cells slots Q (F0 m tgt ls st)) : W p l e R s m args below meth c H locs cells slots Q (F0 m pc ls (.int (iI x) :: st)) := by
  subst hxz
  exact lv_tableIn hc.1 hc.2.1 d (by rw [hz]; omega) (by rw [hz]; omega) (by rw [hz]; exact ho) ht k
theorem nn_tabOut (hc : CallFix p m c cc nL s args Ts own) {dflt lo hi : Int} {offs : Array Int} {len : Nat} {x : Int} {tgt : Nat} (hx : -2147483648 ≤ x ∧ x < 2147483648) (h : x < lo ∨ hi < x) (d : decode cc pc = .ok (.tableswitch dflt lo hi offs, len)) (ht : (pc : Int) + dflt = (tgt : Int))
    (k : W p l e R s m args below meth c H locs cells slots Q (F0 m tgt ls st)) : W p l e R s m args below meth c H locs cells slots Q (F0 m pc ls (.int (iI x) :: st)) :=
  lv_tableOut hc.1 hc.2.1 d (by rw [iI_toInt hx]; exact h) ht k
theorem nn_lookIn (hc : CallFix p m c cc nL s args Ts own) {dflt : Int} {ps : Array (Int × Int)} {len : Nat} {x : Int} (z : Int) {off : Int} {tgt : Nat} (hxz : x = z) (hz : (iI z).toInt = z) (d : decode cc pc = .ok (.lookupswitch dflt ps, len)) (hp : (ps.toList.zip (ps.toList.drop 1)).all (fun (a, next) => a.1 < next.1) = true) (ho : Op.lookupswitch.offset ps.toList dflt z = off) (ht : (pc : Int) + off = (tgt : Int))
    (k : W p l e R s m args below meth c H locs cells slots Q (F0 m tgt ls st)) : W p l e R s m args below meth c H locs cells slots Q (F0 m pc ls (.int (iI x) :: st)) := by
  subst hxz
  exact lv_lookup hc.1 hc.2.1 d hp (by rw [hz]; exact ho) ht k
theorem nn_lookOut (hc : CallFix p m c cc nL s args Ts own) {dflt : Int} {ps : Array (Int × Int)} {len : Nat} {x : Int} {tgt : Nat} (hx : -2147483648 ≤ x ∧ x < 2147483648) (d : decode cc pc = .ok (.lookupswitch dflt ps, len)) (hp : (ps.toList.zip (ps.toList.drop 1)).all (fun (a, next) => a.1 < next.1) = true) (ho : Op.lookupswitch.offset ps.toList dflt x = dflt) (ht : (pc : Int) + dflt = (tgt : Int))
    (k : W p l e R s m args below meth c H locs cells slots Q (F0 m tgt ls st)) : W p l e R s m args below meth c H locs cells slots Q (F0 m pc ls (.int (iI x) :: st)) :=
  lv_lookup hc.1 hc.2.1 d hp (by rw [iI_toInt hx]; exact ho) ht k
/-- a value that a join gives a name to -/
theorem nn_name {x : Int} {rest : List Value} (k : ∀ z : Int, z = x → W p l e R s m args below meth c H locs cells slots Q (F0 m pc ls (.int (iI z) :: rest))) : W p l e R s m args below meth c H locs cells slots Q (F0 m pc ls (.int (iI x) :: rest)) := k x rfl
end NNS
end
section
/-! ===== a course as a list of slates: heap, breadth that is seen ===== -/
abbrev sL : Type := List (Nat × Int)
def tot : sL → Int
  | [] => 0
  | x :: r => x.2 + tot r
def slH (sl : sL) (i : Nat) : Int := ((sl.getD i (0, 0)).1 : Int)
def slV (sl : sL) (i : Nat) : Int := (sl.getD i (0, 0)).2
def slE (sl : sL) (i : Nat) : Int := tot (sl.take (i + 1))
def wst (br : Nat → Int) (L : Int) : sL → Int
  | [] => 0
  | x :: r => (if x.2 < br x.1 then (br x.1 - x.2) * L else 0) + wst br L r
def cuts (br : Nat → Int) : sL → Int
  | [] => 0
  | x :: r => (if x.2 < br x.1 then 1 else 0) + cuts br r
theorem tot_app : ∀ (a b : sL), tot (a ++ b) = tot a + tot b
  | [], b => by simp [tot]
  | x :: r, b => by
    have h := tot_app r b
    simp only [List.cons_append, tot, h]
    omega
theorem wst_app (br : Nat → Int) (L : Int) : ∀ (a b : sL), wst br L (a ++ b) = wst br L a + wst br L b
  | [], b => by simp [wst]
  | x :: r, b => by
    have h := wst_app br L r b
    simp only [List.cons_append, wst, h]
    omega
theorem cuts_app (br : Nat → Int) : ∀ (a b : sL), cuts br (a ++ b) = cuts br a + cuts br b
  | [], b => by simp [cuts]
  | x :: r, b => by
    have h := cuts_app br r b
    simp only [List.cons_append, cuts, h]
    omega
theorem tot_snoc (a : sL) (h : Nat) (v : Int) : tot (a ++ [(h, v)]) = tot a + v := by rw [tot_app]; simp [tot]
theorem wst_snoc (br : Nat → Int) (L : Int) (a : sL) (h : Nat) (v : Int) : wst br L (a ++ [(h, v)]) = wst br L a + (if v < br h then (br h - v) * L else 0) := by rw [wst_app]; simp [wst]
theorem cuts_snoc (br : Nat → Int) (a : sL) (h : Nat) (v : Int) : cuts br (a ++ [(h, v)]) = cuts br a + (if v < br h then 1 else 0) := by rw [cuts_app]; simp [cuts]
theorem slH_lt {a b : sL} {i : Nat} (hi : i < a.length) : slH (a ++ b) i = slH a i := by
  unfold slH
  simp [List.getD_eq_getElem?_getD, List.getElem?_append_left hi]
theorem slH_at (a : sL) (h : Nat) (v : Int) : slH (a ++ [(h, v)]) a.length = h := by
  unfold slH
  simp [List.getD_eq_getElem?_getD]
theorem slV_lt {a b : sL} {i : Nat} (hi : i < a.length) : slV (a ++ b) i = slV a i := by
  unfold slV
  simp [List.getD_eq_getElem?_getD, List.getElem?_append_left hi]
theorem slV_at (a : sL) (h : Nat) (v : Int) : slV (a ++ [(h, v)]) a.length = v := by
  unfold slV
  simp [List.getD_eq_getElem?_getD]
theorem slE_lt {a b : sL} {i : Nat} (hi : i < a.length) : slE (a ++ b) i = slE a i := by
  unfold slE
  rw [List.take_append_of_le_length (by omega)]
theorem slE_at (a : sL) (h : Nat) (v : Int) : slE (a ++ [(h, v)]) a.length = tot a + v := by
  unfold slE
  rw [List.take_of_length_le (by simp), tot_snoc]
theorem slE_last {a : sL} (h : 0 < a.length) : slE a (a.length - 1) = tot a := by
  unfold slE
  rw [List.take_of_length_le (by omega)]
theorem slE_step (a : sL) {i : Nat} (hi : i < a.length) : slE a i = (if 0 < i then slE a (i - 1) else 0) + slV a i := by
  have e1 : a.take (i + 1) = a.take i ++ [a[i]] := by rw [List.take_succ_eq_append_getElem hi]
  have e2 : slV a i = a[i].2 := by unfold slV; simp [List.getD_eq_getElem?_getD, hi]
  unfold slE
  rw [e1, e2]
  show tot (a.take i ++ [(a[i].1, a[i].2)]) = _
  rw [tot_snoc]
  by_cases h0 : 0 < i
  · rw [if_pos h0, show i - 1 + 1 = i by omega]
  · have e0 : i = 0 := by omega
    subst e0
    simp [tot]
/-! ===== the laying of a course ===== -/
/-- a slate with a joint at p: heap and breadth seen -/
def pj (nH : Nat) (ln br rs : Nat → Int) (L : Int) (ed : Nat → Int) (bk : Int) (J : Nat) (p : Int) : Option (Nat × Int) :=
  if fstI (pB ln br rs L ed bk J p) nH = -4 then
    (if fstI (srv ln rs L) nH = -4 then none
     else if cutI (fun v => brk ed bk (p + v) J) (br (fstI (srv ln rs L) nH).toNat - 1).toNat = -4 then none
     else some ((fstI (srv ln rs L) nH).toNat, cutI (fun v => brk ed bk (p + v) J) (br (fstI (srv ln rs L) nH).toNat - 1).toNat))
  else some ((fstI (pB ln br rs L ed bk J p) nH).toNat, br (fstI (pB ln br rs L ed bk J p) nH).toNat)
/-- the slates from the place p on, f more at most -/
def layG (nH : Nat) (ln br : Nat → Int) (L R : Int) (ed : Nat → Int) (bk : Int) (J : Nat) : Nat → (Nat → Int) → Int → Option sL
  | 0, _, _ => none
  | f + 1, rs, p =>
    if lstI (pE ln br rs L R p) nH = -4 then
      (match pj nH ln br rs L ed bk J p with
       | none => none
       | some x => (layG nH ln br L R ed bk J f (va_up rs x.1 (rs x.1 - 1)) (p + x.2)).map (fun r => x :: r))
    else some [((lstI (pE ln br rs L R p) nH).toNat, R - p)]
theorem cutI_spec {q : Nat → Bool} : ∀ {n : Nat}, cutI q n = -4 ∨ (1 ≤ cutI q n ∧ cutI q n ≤ n ∧ q (cutI q n).toNat = true)
  | 0 => Or.inl rfl
  | n + 1 => by
    by_cases hq : q (n + 1) = true
    · refine Or.inr ?_
      rw [cutI, if_pos hq]
      refine ⟨by omega, by omega, ?_⟩
      rw [Int.toNat_natCast]; exact hq
    · rcases cutI_spec (q := q) (n := n) with h | h
      · exact Or.inl (by rw [cutI, if_neg hq]; exact h)
      · refine Or.inr ?_
        rw [cutI, if_neg hq]
        exact ⟨h.1, by omega, h.2.2⟩
/-- what pj gives: a heap that serves; 1 or more is seen, not more than its breadth -/
theorem pj_some {nH : Nat} {ln br rs : Nat → Int} {L : Int} {ed : Nat → Int} {bk : Int} {J : Nat} {p : Int} {h : Nat} {v : Int} (hbr : ∀ i : Nat, i < nH → 1 ≤ br i) (e : pj nH ln br rs L ed bk J p = some (h, v)) : h < nH ∧ ln h = L ∧ 0 < rs h ∧ 1 ≤ v ∧ v ≤ br h := by
  unfold pj at e
  by_cases h1 : fstI (pB ln br rs L ed bk J p) nH = -4
  · rw [if_pos h1] at e
    by_cases h2 : fstI (srv ln rs L) nH = -4
    · rw [if_pos h2] at e; cases e
    · rw [if_neg h2] at e
      rcases fstI_spec (q := srv ln rs L) (n := nH) with z | ⟨w, z1, z2, z3, -⟩
      · exact absurd z h2
      · rw [z1] at e
        simp only [Int.toNat_natCast] at e
        rcases cutI_spec (q := fun v => brk ed bk (p + v) J) (n := (br w - 1).toNat) with y | ⟨y1, y2, -⟩
        · rw [if_pos y] at e; cases e
        · rw [if_neg (by omega)] at e
          cases e
          have := hbr h z2
          exact ⟨z2, (srv_iff.mp z3).1, (srv_iff.mp z3).2, y1, by omega⟩
  · rw [if_neg h1] at e
    rcases fstI_spec (q := pB ln br rs L ed bk J p) (n := nH) with z | ⟨w, z1, z2, z3, -⟩
    · exact absurd z h1
    · rw [z1] at e
      simp only [Int.toNat_natCast] at e
      cases e
      have := hbr h z2
      have z4 := (pB_iff.mp z3).1
      exact ⟨z2, z4.1, z4.2, this, Int.le_refl _⟩
end
section
def rmF (wi hp f : Int) : Int := if 20 < wi - hp * f / 10 then wi - hp * f / 10 else 20
theorem rmF_ge (wi hp f : Int) : 20 ≤ rmF wi hp f := by unfold rmF; split <;> omega
theorem fstI_r (q : Nat → Bool) (n : Nat) : fstI q n = -4 ∨ (0 ≤ fstI q n ∧ fstI q n < n) := by
  rcases fstI_spec (q := q) (n := n) with h | ⟨h, h1, h2, -, -⟩
  · exact Or.inl h
  · exact Or.inr (by rw [h1]; omega)
theorem lstI_r (q : Nat → Bool) (n : Nat) : lstI q n = -4 ∨ (0 ≤ lstI q n ∧ lstI q n < n) := by
  rcases lstI_spec (q := q) (n := n) with h | ⟨h, h1, h2, -, -⟩
  · exact Or.inl h
  · exact Or.inr (by rw [h1]; omega)
theorem cutI_r (q : Nat → Bool) (n : Nat) : cutI q n = -4 ∨ (1 ≤ cutI q n ∧ cutI q n ≤ n) := by
  rcases cutI_spec (q := q) (n := n) with h | h
  · exact Or.inl h
  · exact Or.inr ⟨h.1, h.2.1⟩
theorem fstI_q {q : Nat → Bool} {n : Nat} (h : 0 ≤ fstI q n) : q (fstI q n).toNat = true := by
  rcases fstI_spec (q := q) (n := n) with z | ⟨k, h1, h2, h3, -⟩
  · omega
  · rw [h1, Int.toNat_natCast]; exact h3
theorem lstI_q {q : Nat → Bool} {n : Nat} (h : 0 ≤ lstI q n) : q (lstI q n).toNat = true := by
  rcases lstI_spec (q := q) (n := n) with z | ⟨k, h1, h2, h3, -⟩
  · omega
  · rw [h1, Int.toNat_natCast]; exact h3
theorem fstI_congr {q q' : Nat → Bool} : ∀ {n : Nat}, (∀ i : Nat, i < n → q i = q' i) → fstI q n = fstI q' n
  | 0, _ => rfl
  | n + 1, h => by
    rw [fstI, fstI, fstI_congr (fun i hi => h i (by omega)), h n (by omega)]
theorem lstI_congr {q q' : Nat → Bool} : ∀ {n : Nat}, (∀ i : Nat, i < n → q i = q' i) → lstI q n = lstI q' n
  | 0, _ => rfl
  | n + 1, h => by
    rw [lstI, lstI, lstI_congr (fun i hi => h i (by omega)), h n (by omega)]
theorem pj_congr {nH : Nat} {ln br rs rs' : Nat → Int} {L : Int} {ed : Nat → Int} {bk : Int} {J : Nat} {p : Int} (h : ∀ i : Nat, i < nH → rs i = rs' i) : pj nH ln br rs L ed bk J p = pj nH ln br rs' L ed bk J p := by
  have e1 : fstI (pB ln br rs L ed bk J p) nH = fstI (pB ln br rs' L ed bk J p) nH := fstI_congr (fun i hi => by simp only [pB, srv, h i hi])
  have e2 : fstI (srv ln rs L) nH = fstI (srv ln rs' L) nH := fstI_congr (fun i hi => by simp only [srv, h i hi])
  unfold pj
  rw [e1, e2]
theorem layG_congr {nH : Nat} {ln br : Nat → Int} {L R : Int} {ed : Nat → Int} {bk : Int} {J : Nat} : ∀ (f : Nat) (rs rs' : Nat → Int) (p : Int), (∀ i : Nat, i < nH → rs i = rs' i) → layG nH ln br L R ed bk J f rs p = layG nH ln br L R ed bk J f rs' p
  | 0, _, _, _, _ => rfl
  | f + 1, rs, rs', p, h => by
    have e1 : lstI (pE ln br rs L R p) nH = lstI (pE ln br rs' L R p) nH := lstI_congr (fun i hi => by simp only [pE, srv, h i hi])
    rw [layG, layG, e1, pj_congr h]
    by_cases h1 : lstI (pE ln br rs' L R p) nH = -4
    · rw [if_pos h1, if_pos h1]
      cases hp : pj nH ln br rs' L ed bk J p with
      | none => rfl
      | some x =>
        show Option.map _ _ = Option.map _ _
        rw [layG_congr f (va_up rs x.1 (rs x.1 - 1)) (va_up rs' x.1 (rs' x.1 - 1)) (p + x.2) (fun i hi => by
          unfold va_up
          by_cases hx : i = x.1
          · rw [if_pos hx, if_pos hx, ← hx, h i hi]
          · rw [if_neg hx, if_neg hx, h i hi])]
    · rw [if_neg h1, if_neg h1]
theorem layG_end {nH : Nat} {ln br rs : Nat → Int} {L R : Int} {ed : Nat → Int} {bk : Int} {J f : Nat} {p : Int} {tl : sL} (h : layG nH ln br L R ed bk J (f + 1) rs p = some tl) (h1 : 0 ≤ lstI (pE ln br rs L R p) nH) : tl = [((lstI (pE ln br rs L R p) nH).toNat, R - p)] := by
  rw [layG, if_neg (by omega)] at h
  exact (Option.some.inj h).symm
theorem layG_step {nH : Nat} {ln br rs : Nat → Int} {L R : Int} {ed : Nat → Int} {bk : Int} {J f : Nat} {p : Int} {tl : sL} (h : layG nH ln br L R ed bk J (f + 1) rs p = some tl) (h1 : lstI (pE ln br rs L R p) nH < 0) :
    ∃ (x : Nat × Int) (r : sL), pj nH ln br rs L ed bk J p = some x ∧ tl = x :: r ∧ layG nH ln br L R ed bk J f (va_up rs x.1 (rs x.1 - 1)) (p + x.2) = some r := by
  have hr := lstI_r (pE ln br rs L R p) nH
  rw [layG, if_pos (by omega)] at h
  cases hp : pj nH ln br rs L ed bk J p with
  | none => rw [hp] at h; cases h
  | some x =>
    rw [hp] at h
    have h' : Option.map (fun r => x :: r) (layG nH ln br L R ed bk J f (va_up rs x.1 (rs x.1 - 1)) (p + x.2)) = some tl := h
    cases hz : layG nH ln br L R ed bk J f (va_up rs x.1 (rs x.1 - 1)) (p + x.2) with
    | none => rw [hz] at h'; cases h'
    | some r =>
      rw [hz] at h'
      exact ⟨x, r, rfl, (Option.some.inj h').symm, hz⟩
theorem layG_no {nH : Nat} {ln br rs : Nat → Int} {L R : Int} {ed : Nat → Int} {bk : Int} {J f : Nat} {p : Int} (h : layG nH ln br L R ed bk J (f + 1) rs p = none) :
    lstI (pE ln br rs L R p) nH = -4 ∧ (pj nH ln br rs L ed bk J p = none ∨ ∃ x : Nat × Int, pj nH ln br rs L ed bk J p = some x ∧ layG nH ln br L R ed bk J f (va_up rs x.1 (rs x.1 - 1)) (p + x.2) = none) := by
  by_cases h1 : lstI (pE ln br rs L R p) nH = -4
  · rw [layG, if_pos h1] at h
    refine ⟨h1, ?_⟩
    cases hp : pj nH ln br rs L ed bk J p with
    | none => exact Or.inl rfl
    | some x =>
      rw [hp] at h
      have h' : Option.map (fun r => x :: r) (layG nH ln br L R ed bk J f (va_up rs x.1 (rs x.1 - 1)) (p + x.2)) = none := h
      refine Or.inr ⟨x, rfl, ?_⟩
      cases hz : layG nH ln br L R ed bk J f (va_up rs x.1 (rs x.1 - 1)) (p + x.2) with
      | none => rfl
      | some r => rw [hz] at h'; cases h'
  · rw [layG, if_neg h1] at h; cases h
/-- a slate with a joint leaves room -/
theorem pj_fits {nH : Nat} {ln br rs : Nat → Int} {L R : Int} {ed : Nat → Int} {bk : Int} {J : Nat} {p : Int} {x : Nat × Int} (hbr : ∀ i : Nat, i < nH → 1 ≤ br i) (h1 : lstI (pE ln br rs L R p) nH = -4) (e : pj nH ln br rs L ed bk J p = some x) : x.1 < nH ∧ 0 < rs x.1 ∧ 1 ≤ x.2 ∧ x.2 ≤ br x.1 ∧ p + x.2 < R := by
  obtain ⟨g1, g2, g3, g4, g5⟩ := pj_some (h := x.1) (v := x.2) hbr e
  have h2 := lstI_none.mp h1 x.1 g1
  refine ⟨g1, g3, g4, g5, ?_⟩
  have h3 : ¬ R ≤ p + br x.1 := fun z => by
    have := pE_iff.mpr ⟨⟨g2, g3⟩, z⟩
    rw [h2] at this; cases this
  omega
theorem start_tot {k : Int} {eo : Nat → Int} {acc : sL} (hk : k = acc.length) (h6 : k ≤ 60) (he : ∀ i : Nat, i < acc.length → eo i = slE acc i) : (if 0 < k ∧ k ≤ 60 then eo (k - 1).toNat else 0) = tot acc := by
  by_cases h : 0 < k
  · rw [if_pos ⟨h, h6⟩, he _ (by omega), show (k - 1).toNat = acc.length - 1 by omega, slE_last (by omega)]
  · rw [if_neg (by omega)]
    have e0 : acc = [] := List.length_eq_zero_iff.mp (by omega)
    rw [e0]; rfl
theorem up_slH {hf : Nat → Int} {acc : sL} {k : Nat} {x : Nat × Int} {z : Int} (hk : k = acc.length) (hz : z = x.1) (h : ∀ i : Nat, i < acc.length → hf i = slH acc i) : ∀ i : Nat, i < (acc ++ [x]).length → va_up hf k z i = slH (acc ++ [x]) i := by
  intro i hi
  rw [List.length_append] at hi
  simp only [List.length_cons, List.length_nil] at hi
  unfold va_up
  by_cases e : i = k
  · rw [if_pos e, e, hk]
    have := slH_at acc x.1 x.2
    rw [hz]; exact this.symm
  · rw [if_neg e, slH_lt (by omega)]; exact h i (by omega)
theorem up_slE {ed : Nat → Int} {acc : sL} {k : Nat} {x : Nat × Int} {z : Int} (hk : k = acc.length) (hz : z = tot acc + x.2) (h : ∀ i : Nat, i < acc.length → ed i = slE acc i) : ∀ i : Nat, i < (acc ++ [x]).length → va_up ed k z i = slE (acc ++ [x]) i := by
  intro i hi
  rw [List.length_append] at hi
  simp only [List.length_cons, List.length_nil] at hi
  unfold va_up
  by_cases e : i = k
  · rw [if_pos e, e, hk]
    have := slE_at acc x.1 x.2
    rw [hz]; exact this.symm
  · rw [if_neg e, slE_lt (by omega)]; exact h i (by omega)
theorem cpy8 {f h : Nat → Int} {i : Nat} (hi : i < 8) : va_cpy f h 0 0 8 i = f i := by
  unfold va_cpy
  rw [if_pos (by omega)]
  congr 1
  omega
end
section
set_option maxHeartbeats 4000000 in
set_option maxRecDepth 100000 in
theorem c_X8_isWithin (l : Launch) (g : gG) {n : Nat} {S : Nat → gE} {x lo hi : Int}  (r_x : -2147483648 ≤ x ∧ x < 2147483648) (r_lo : -2147483648 ≤ lo ∧ lo < 2147483648) (r_hi : -2147483648 ≤ hi ∧ hi < 2147483648) : g_Cp l yX8_isWithin wsX8_isWithin { frames := 0, cells := 0, slots := 0, locals := 0 } g [.int (iI x), .int (iI lo), .int (iI hi)] n S (some (.int (iI (if lo ≤ x ∧ x ≤ hi then 1 else 0)))) := by
  refine g_Cp.of (cc := cX8_isWithin) (maxL := 3) (ret := (some .boolean)) (by decide) rfl (Nat.le_of_ble_eq_true rfl) ?_
  intro pp ee s m below meth c Q ls hc hnm hw hl hret
  have hl : lv_has ls 3 [(0, .int (iI x)), (1, .int (iI lo)), (2, .int (iI hi))] := hl
  have hrt : ∀ (pc : Nat) (ls : Array Slot) (xr : Int), decode cX8_isWithin pc = .ok (.ireturn, 1) → xr = (if lo ≤ x ∧ x ≤ hi then 1 else 0) → W pp l ee ({ frames := 0, cells := 0, slots := 0, locals := 0 } : Room) s m ([.int (iI x), .int (iI lo), .int (iI hi)] : List Value).toArray below meth c s.heap [] 0 0 Q (F0 m pc ls [.int (iI xr)]) := fun pc ls xr d hx => by subst hx; exact hret pc ls ⟨_, rfl, nn_nb _, d⟩
  refine lv_iload_n hc.1 hc.2.1 dX8_isWithin_0 rfl (lv_at hl 0 rfl) ?_
  refine lv_iload_n hc.1 hc.2.1 dX8_isWithin_1 rfl (lv_at hl 1 rfl) ?_
  refine nn_icmp_lt hc dX8_isWithin_2 (tgt := 14) (by decide) (by omega) (by omega) (fun c1 => ?_) (fun c1 => ?_)
  · refine nn_iconst hc dX8_isWithin_14 ?_
    exact hrt _ _ _ dX8_isWithin_15 (by first | rfl | omega | (split <;> omega))
  · refine lv_iload_n hc.1 hc.2.1 dX8_isWithin_5 rfl (lv_at hl 0 rfl) ?_
    refine lv_iload_n hc.1 hc.2.1 dX8_isWithin_6 rfl (lv_at hl 2 rfl) ?_
    refine nn_icmp_gt hc dX8_isWithin_7 (tgt := 14) (by decide) (by omega) (by omega) (fun c2 => ?_) (fun c2 => ?_)
    · refine nn_iconst hc dX8_isWithin_14 ?_
      exact hrt _ _ _ dX8_isWithin_15 (by first | rfl | omega | (split <;> omega))
    · refine nn_iconst hc dX8_isWithin_10 ?_
      refine lv_goto hc.1 hc.2.1 dX8_isWithin_11 (tgt := 15) (by decide) ?_
      exact hrt _ _ _ dX8_isWithin_15 (by first | rfl | omega | (split <;> omega))

set_option maxHeartbeats 4000000 in
set_option maxRecDepth 100000 in
theorem c_X3_head (l : Launch) (g : gG) {n : Nat} {S : Nat → gE} {a : Nat} {cL cF cG cR cZ cW cU : Int} (ha : S a = oO 3 [.ref (a + 1), .ref (a + 2), .int (iI cL), .int (iI cF), .int (iI cG), .int (iI cR), .int (iI cZ), .int (iI cW), .int (iI cU)])  : g_Cp l yX3_head wsX3_head { frames := 0, cells := 0, slots := 0, locals := 0 } g [.ref a] n S (some (.int (iI (cF + cG)))) := by
  refine g_Cp.of (cc := cX3_head) (maxL := 1) (ret := (some .int)) (by decide) rfl (Nat.le_of_ble_eq_true rfl) ?_
  intro pp ee s m below meth c Q ls hc hnm hw hl hret
  have hl : lv_has ls 1 [(0, .ref a)] := hl
  have hiX3 : ∀ w ∈ u_ws RX3 TX3 9, w ∈ wsX3_head := by decide +kernel
  have lk22 : Cond.fieldLink RX3 22 "RoofCourses$Course" "foot" "I" ∈ wsX3_head := by decide +kernel
  have lk25 : Cond.fieldLink RX3 25 "RoofCourses$Course" "gauge" "I" ∈ wsX3_head := by decide +kernel
  have hrt : ∀ (pc : Nat) (ls : Array Slot) (xr : Int), decode cX3_head pc = .ok (.ireturn, 1) → xr = (cF + cG) → W pp l ee ({ frames := 0, cells := 0, slots := 0, locals := 0 } : Room) s m ([.ref a] : List Value).toArray below meth c s.heap [] 0 0 Q (F0 m pc ls [.int (iI xr)]) := fun pc ls xr d hx => by subst hx; exact hret pc ls ⟨_, rfl, rfl, d⟩
  refine lv_aload_n hc.1 hc.2.1 dX3_head_0 rfl (lv_at hl 0 rfl) ?_
  refine nn_get hc hw ha hiX3 rfl 3 (by decide) rfl lk22 dX3_head_1 ?_
  refine lv_aload_n hc.1 hc.2.1 dX3_head_4 rfl (lv_at hl 0 rfl) ?_
  refine nn_get hc hw ha hiX3 rfl 4 (by decide) rfl lk25 dX3_head_5 ?_
  refine nn_iadd hc dX3_head_8 ?_
  exact hrt _ _ _ dX3_head_9 (by first | rfl | omega | (split <;> omega))

set_option maxHeartbeats 4000000 in
set_option maxRecDepth 100000 in
theorem c_X3_startOf (l : Launch) (g : gG) {n : Nat} {S : Nat → gE} {a : Nat} {cL cF cG cR cZ cW cU : Int} {k : Int} {ed : Nat → Int} (ha : S a = oO 3 [.ref (a + 1), .ref (a + 2), .int (iI cL), .int (iI cF), .int (iI cG), .int (iI cR), .int (iI cZ), .int (iI cW), .int (iI cU)]) (he : S (a + 2) = oI g 60 ed) (rk : -2147483648 ≤ k ∧ k < 2147483648) : g_Cp l yX3_startOf wsX3_startOf { frames := 0, cells := 0, slots := 0, locals := 0 } g [.ref a, .int (iI k)] n S (some (.int (iI (if 0 < k ∧ k ≤ 60 then ed (k - 1).toNat else 0)))) := by
  refine g_Cp.of (cc := cX3_startOf) (maxL := 2) (ret := (some .int)) (by decide) rfl (Nat.le_of_ble_eq_true rfl) ?_
  intro pp ee s m below meth c Q ls hc hnm hw hl hret
  have hl : lv_has ls 2 [(0, .ref a), (1, .int (iI k))] := hl
  have hiX3 : ∀ w ∈ u_ws RX3 TX3 9, w ∈ wsX3_startOf := by decide +kernel
  have lk15 : Cond.fieldLink RX3 15 "RoofCourses$Course" "edge" "[I" ∈ wsX3_startOf := by decide +kernel
  have hrt : ∀ (pc : Nat) (ls : Array Slot) (xr : Int), decode cX3_startOf pc = .ok (.ireturn, 1) → xr = (if 0 < k ∧ k ≤ 60 then ed (k - 1).toNat else 0) → W pp l ee ({ frames := 0, cells := 0, slots := 0, locals := 0 } : Room) s m ([.ref a, .int (iI k)] : List Value).toArray below meth c s.heap [] 0 0 Q (F0 m pc ls [.int (iI xr)]) := fun pc ls xr d hx => by subst hx; exact hret pc ls ⟨_, rfl, rfl, d⟩
  refine lv_iload_n hc.1 hc.2.1 dX3_startOf_0 rfl (lv_at hl 1 rfl) ?_
  refine nn_if_le hc dX3_startOf_1 (tgt := 21) (by decide) (by omega) (fun c1 => ?_) (fun c1 => ?_)
  · refine nn_iconst hc dX3_startOf_21 ?_
    exact hrt _ _ _ dX3_startOf_22 (by first | (rw [if_pos (by omega)]) | (rw [if_neg (by omega)]))
  · refine lv_iload_n hc.1 hc.2.1 dX3_startOf_4 rfl (lv_at hl 1 rfl) ?_
    refine nn_bipush hc dX3_startOf_5 (by decide +kernel) ?_
    refine nn_icmp_gt hc dX3_startOf_7 (tgt := 21) (by decide) (by omega) (by decide) (fun c2 => ?_) (fun c2 => ?_)
    · refine nn_iconst hc dX3_startOf_21 ?_
      exact hrt _ _ _ dX3_startOf_22 (by first | (rw [if_pos (by omega)]) | (rw [if_neg (by omega)]))
    · refine lv_aload_n hc.1 hc.2.1 dX3_startOf_10 rfl (lv_at hl 0 rfl) ?_
      refine nn_get hc hw ha hiX3 rfl 1 (by decide) rfl lk15 dX3_startOf_11 ?_
      refine lv_iload_n hc.1 hc.2.1 dX3_startOf_14 rfl (lv_at hl 1 rfl) ?_
      refine nn_iconst hc dX3_startOf_15 ?_
      refine nn_isub hc dX3_startOf_16 ?_
      refine nn_iald hc hw he (by omega) (by omega) dX3_startOf_17 ?_
      refine lv_goto hc.1 hc.2.1 dX3_startOf_18 (tgt := 22) (by decide) ?_
      exact hrt _ _ _ dX3_startOf_22 (by first | (rw [if_pos (by omega)]) | (rw [if_neg (by omega)]))

set_option maxHeartbeats 4000000 in
set_option maxRecDepth 100000 in
theorem c_X3_joints (l : Launch) (g : gG) {n : Nat} {S : Nat → gE} {a : Nat} {cL cF cG cR cZ cW cU : Int} (ha : S a = oO 3 [.ref (a + 1), .ref (a + 2), .int (iI cL), .int (iI cF), .int (iI cG), .int (iI cR), .int (iI cZ), .int (iI cW), .int (iI cU)]) (rZ : 0 ≤ cZ ∧ cZ ≤ 60) : g_Cp l yX3_joints wsX3_joints { frames := 1, cells := 0, slots := 0, locals := 13 } g [.ref a] n S (some (.int (iI (if 0 < cZ - 1 then cZ - 1 else 0)))) := by
  refine g_Cp.of (cc := cX3_joints) (maxL := 1) (ret := (some .int)) (by decide) rfl (Nat.le_of_ble_eq_true rfl) ?_
  intro pp ee s m below meth c Q ls hc hnm hw hl hret
  have hl : lv_has ls 1 [(0, .ref a)] := hl
  have hiX3 : ∀ w ∈ u_ws RX3 TX3 9, w ∈ wsX3_joints := by decide +kernel
  have lk31 : Cond.fieldLink RX3 31 "RoofCourses$Course" "size" "I" ∈ wsX3_joints := by decide +kernel
  have lkM44 : Cond.methodLink RX3 44 Lib.Math.max.name ∈ wsX3_joints := by decide +kernel
  have lkMsmax : Cond.static Lib.Math.max.name ∈ wsX3_joints := by decide +kernel
  have lkMi : Cond.initialized "java/lang/Math" ∈ wsX3_joints := by decide +kernel
  have lkMcmax : Cond.code Lib.Math.max.name Lib.Math.max.code 2 (some .int) ∈ wsX3_joints := by decide +kernel
  have hrt : ∀ (pc : Nat) (ls : Array Slot) (xr : Int), decode cX3_joints pc = .ok (.ireturn, 1) → xr = (if 0 < cZ - 1 then cZ - 1 else 0) → W pp l ee ({ frames := 1, cells := 0, slots := 0, locals := 13 } : Room) s m ([.ref a] : List Value).toArray below meth c s.heap [] 0 0 Q (F0 m pc ls [.int (iI xr)]) := fun pc ls xr d hx => by subst hx; exact hret pc ls ⟨_, rfl, rfl, d⟩
  refine nn_iconst hc dX3_joints_0 ?_
  refine lv_aload_n hc.1 hc.2.1 dX3_joints_1 rfl (lv_at hl 0 rfl) ?_
  refine nn_get hc hw ha hiX3 rfl 6 (by decide) rfl lk31 dX3_joints_2 ?_
  refine nn_iconst hc dX3_joints_5 ?_
  refine nn_isub hc dX3_joints_6 ?_
  refine nn_max hc hl.1 (by decide) (by omega) lkM44 lkMsmax lkMi lkMcmax (Nat.le_of_ble_eq_true rfl) (Nat.le_of_ble_eq_true rfl) ⟨Nat.zero_le _, Nat.zero_le _⟩ dX3_joints_7 ?_
  exact hrt _ _ _ dX3_joints_10 (by first | rfl | omega | (split <;> omega))

set_option maxHeartbeats 4000000 in
set_option maxRecDepth 100000 in
theorem c_X3_isBrokenAt (l : Launch) (g : gG) {n : Nat} {S : Nat → gE} {a : Nat} {cL cF cG cR cZ cW cU : Int} {pl br : Int} {ed : Nat → Int} (ha : S a = oO 3 [.ref (a + 1), .ref (a + 2), .int (iI cL), .int (iI cF), .int (iI cG), .int (iI cR), .int (iI cZ), .int (iI cW), .int (iI cU)]) (he : S (a + 2) = oI g 60 ed) (rZ : 0 ≤ cZ ∧ cZ ≤ 60) (rp : -100000000 ≤ pl ∧ pl ≤ 100000000) (rb : 0 ≤ br ∧ br ≤ 100000000) (red : ∀ k : Nat, (k : Int) < cZ - 1 → -100000000 ≤ ed k ∧ ed k ≤ 100000000) : g_Cp l yX3_isBrokenAt wsX3_isBrokenAt { frames := 2, cells := 0, slots := 0, locals := 33 } g [.ref a, .int (iI pl), .int (iI br)] n S (some (.int (iI (if brk ed br pl (cZ - 1).toNat = true then 1 else 0)))) := by
  refine g_Cp.of (cc := cX3_isBrokenAt) (maxL := 4) (ret := (some .boolean)) (by decide) rfl (Nat.le_of_ble_eq_true rfl) ?_
  intro pp ee s m below meth c Q ls hc hnm hw hl hret
  have hl : lv_has ls 4 [(0, .ref a), (1, .int (iI pl)), (2, .int (iI br))] := hl
  have hiX3 : ∀ w ∈ u_ws RX3 TX3 9, w ∈ wsX3_isBrokenAt := by decide +kernel
  have lk15 : Cond.fieldLink RX3 15 "RoofCourses$Course" "edge" "[I" ∈ wsX3_isBrokenAt := by decide +kernel
  have lkM54 : Cond.methodLink RX3 54 Lib.Math.abs.name ∈ wsX3_isBrokenAt := by decide +kernel
  have lkMsabs : Cond.static Lib.Math.abs.name ∈ wsX3_isBrokenAt := by decide +kernel
  have lkMi : Cond.initialized "java/lang/Math" ∈ wsX3_isBrokenAt := by decide +kernel
  have lkMcabs : Cond.code Lib.Math.abs.name Lib.Math.abs.code 1 (some .int) ∈ wsX3_isBrokenAt := by decide +kernel
  have hrt : ∀ (pc : Nat) (ls : Array Slot) (xr : Int), decode cX3_isBrokenAt pc = .ok (.ireturn, 1) → xr = (if brk ed br pl (cZ - 1).toNat = true then 1 else 0) → W pp l ee ({ frames := 2, cells := 0, slots := 0, locals := 33 } : Room) s m ([.ref a, .int (iI pl), .int (iI br)] : List Value).toArray below meth c s.heap [] 0 0 Q (F0 m pc ls [.int (iI xr)]) := fun pc ls xr d hx => by subst hx; exact hret pc ls ⟨_, rfl, nn_nb _, d⟩
  refine nn_iconst hc dX3_isBrokenAt_0 ?_
  refine lv_istore_n (lv' := [(3, .int (iI 0)), (0, .ref a), (1, .int (iI pl)), (2, .int (iI br))]) hc.1 hc.2.1 dX3_isBrokenAt_1 rfl hl (by decide) rfl (fun ls hl => ?_)
  have lab2 : ∀ (fu2 : Nat) (k : Int) (ls : Array Slot), (0 ≤ k ∧ (k < cZ ∨ k = 0)) → (∀ i : Nat, (i : Int) < k → br ≤ ed i - pl ∨ br ≤ pl - ed i) → (60 - k).toNat < fu2 → lv_has ls 4 [(3, .int (iI k)), (0, .ref a), (1, .int (iI pl)), (2, .int (iI br))] → W pp l ee ({ frames := 2, cells := 0, slots := 0, locals := 33 } : Room) s m ([.ref a, .int (iI pl), .int (iI br)] : List Value).toArray below meth c s.heap [] 0 0 Q (F0 m 2 ls []) := by
    intro fu2
    induction fu2 with
    | zero =>
      intro k ls hk hall hmeas hl
      exact absurd hmeas (Nat.not_lt_zero _)
    | succ fu2 ih2 =>
      intro k ls hk hall hmeas hl
      refine lv_iload_n hc.1 hc.2.1 dX3_isBrokenAt_2 rfl (lv_at hl 0 rfl) ?_
      refine lv_aload_n hc.1 hc.2.1 dX3_isBrokenAt_3 rfl (lv_at hl 1 rfl) ?_
      refine nn_Vp (As := []) (st := [.int (iI k)]) hc hw ha rfl (c_X3_joints l g  ha (by omega)) (cwV 0 hc.2.2.2.2 gX3_isBrokenAt_X3_joints rfl rfl rfl (by decide +kernel) ⟨Nat.le_of_ble_eq_true rfl, Nat.le_of_ble_eq_true rfl⟩) rfl hl.1 rfl (Nat.le_of_ble_eq_true rfl) ⟨Nat.le_of_ble_eq_true rfl, Nat.le_of_ble_eq_true rfl⟩ dX3_isBrokenAt_4 ?_
      refine W.eq (g2 := F0 m 7 ls [.int (iI (if 0 < cZ - 1 then cZ - 1 else 0)), .int (iI k)]) rfl ?_
      refine nn_icmp_ge hc dX3_isBrokenAt_7 (tgt := 33) (by decide) (by omega) (by omega) (fun c1 => ?_) (fun c1 => ?_)
      · refine nn_iconst hc dX3_isBrokenAt_33 ?_
        exact hrt _ _ _ dX3_isBrokenAt_34 (by rw [if_pos (brk_iff.mpr (fun i hi => hall i (by omega)))])
      · refine lv_aload_n hc.1 hc.2.1 dX3_isBrokenAt_10 rfl (lv_at hl 1 rfl) ?_
        refine nn_get hc hw ha hiX3 rfl 1 (by decide) rfl lk15 dX3_isBrokenAt_11 ?_
        refine lv_iload_n hc.1 hc.2.1 dX3_isBrokenAt_14 rfl (lv_at hl 0 rfl) ?_
        have hrk := red k.toNat (by omega)
        refine nn_iald hc hw he (by omega) (by omega) dX3_isBrokenAt_15 ?_
        refine lv_iload_n hc.1 hc.2.1 dX3_isBrokenAt_16 rfl (lv_at hl 2 rfl) ?_
        refine nn_isub hc dX3_isBrokenAt_17 ?_
        refine nn_abs hc hl.1 (by omega) lkM54 lkMsabs lkMi lkMcabs (Nat.le_of_ble_eq_true rfl) (Nat.le_of_ble_eq_true rfl) ⟨Nat.zero_le _, Nat.zero_le _⟩ dX3_isBrokenAt_18 ?_
        refine lv_iload_n hc.1 hc.2.1 dX3_isBrokenAt_21 rfl (lv_at hl 3 rfl) ?_
        refine nn_icmp_ge hc dX3_isBrokenAt_22 (tgt := 27) (by decide) (by omega) (by omega) (fun c2 => ?_) (fun c2 => ?_)
        · refine nn_iinc (lv' := [(3, .int (iI (k + 1))), (0, .ref a), (1, .int (iI pl)), (2, .int (iI br))]) hc dX3_isBrokenAt_27 hl (k0 := 0) rfl (by decide) rfl (fun ls hl => ?_)
          refine lv_goto hc.1 hc.2.1 dX3_isBrokenAt_30 (tgt := 2) (by decide) ?_
          exact ih2 (k + 1) _ (by omega) (fun i hi => by rcases Nat.lt_or_ge i k.toNat with q | q; exact hall i (by omega); have e1 : i = k.toNat := (by omega); subst e1; omega) (by omega) (lv_sub hl [0, 1, 2, 3] rfl)
        · refine nn_iconst hc dX3_isBrokenAt_25 ?_
          exact hrt _ _ _ dX3_isBrokenAt_26 (by rw [if_neg (fun q => by have := brk_iff.mp q k.toNat (by omega); omega)])
  exact lab2 _ 0 _ (by omega) (fun i hi => absurd hi (by omega)) (Nat.lt_succ_self _) (lv_sub hl [0, 1, 2, 3] rfl)

set_option maxHeartbeats 4000000 in
set_option maxRecDepth 100000 in
theorem c_X3_init (l : Launch) (g : gG) {S : Nat → gE} {a : Nat} (ha : S a = oO 3 [.null, .null, .int (iI 0), .int (iI 0), .int (iI 0), .int (iI 0), .int (iI 0), .int (iI 0), .int (iI 0)])  : g_Cs l yX3_init wsX3_init { frames := 1, cells := 2, slots := 120, locals := 12 } g [.ref a] (a + 1) S (fun vr n1 S1 => vr = none ∧ a + 3 = n1 ∧ S1 a = oO 3 [.ref (a + 1), .ref (a + 2), .int (iI 0), .int (iI 0), .int (iI 0), .int (iI 0), .int (iI 0), .int (iI 0), .int (iI 0)] ∧ S1 (a + 1) = oI g 60 (fun _ => 0) ∧ S1 (a + 2) = oI g 60 (fun _ => 0) ∧ (∀ b, b ≠ a → b ≠ (a + 1) → b ≠ (a + 2) → S1 b = S b)) 2 120 := by
  refine g_Cs.of (cc := cX3_init) (maxL := 1) (ret := none) (by decide) rfl (Nat.le_of_ble_eq_true rfl) ?_
  intro pp ee s m below meth c Q H locs ls hc hnm hw hl hret
  have hl : lv_has ls 1 [(0, .ref a)] := hl
  have hiX3 : ∀ w ∈ u_ws RX3 TX3 9, w ∈ wsX3_init := by decide +kernel
  have lkO : Cond.methodLink RX3 3 objectInit ∈ wsX3_init := by decide +kernel
  have lkOi : Cond.instanceMethod objectInit ∈ wsX3_init := by decide +kernel
  have lkOc : Cond.code objectInit ⟨#[0xb1]⟩ 1 none ∈ wsX3_init := by decide +kernel
  have lkAint : Cond.arrayClass .int ∈ wsX3_init := by decide +kernel
  have lk9 : Cond.fieldLink RX3 9 "RoofCourses$Course" "heapOf" "[I" ∈ wsX3_init := by decide +kernel
  have lk15 : Cond.fieldLink RX3 15 "RoofCourses$Course" "edge" "[I" ∈ wsX3_init := by decide +kernel
  refine lv_aload_n hc.1 hc.2.1 dX3_init_0 rfl (lv_at hl 0 rfl) ?_
  refine W.objInit hc.1 hc.2.1 hc.2.2.2.1 (hc.2.2.2.2 _ lkO) (hc.2.2.2.2 _ lkOi) (hc.2.2.2.2 _ lkOc) rfl (by rw [hc.2.2.1]; exact hl.1) rfl dX3_init_1 (Nat.le_of_ble_eq_true rfl) (Nat.le_of_ble_eq_true rfl) ?_
  refine W.eq (g2 := F0 m 4 ls []) rfl ?_
  refine lv_aload_n hc.1 hc.2.1 dX3_init_4 rfl (lv_at hl 0 rfl) ?_
  refine nn_bipush hc dX3_init_5 (by decide +kernel) ?_
  refine nn_newI (N := 60) hc hw lkAint (by decide) rfl (Nat.le_of_ble_eq_true rfl) (Nat.le_of_ble_eq_true rfl) (Nat.le_of_ble_eq_true rfl) dX3_init_7 (fun S1 H hS1 fS1 hw => ?_)
  have hS1 : S1 (a + 1) = oI g 60 (fun _ => 0) := hS1
  have hw : g_W g (a + 2) S1 s H locs := hw
  refine W.cs (cells' := 1) (slots' := 60) (by decide) (by decide) ?_
  have e2 : S1 a = oO 3 [.null, .null, .int (iI 0), .int (iI 0), .int (iI 0), .int (iI 0), .int (iI 0), .int (iI 0), .int (iI 0)] := (fS1 a (by omega)).trans ha
  refine nn_putF hc hnm hw e2 hiX3 tyX3 tyX3_ok nmX3 rfl 0 (by decide) (Nat.le_of_ble_eq_true rfl) lk9 rfl rfl rfl rfl dX3_init_9 (fun S3 H locs hS3 fS3 hw => ?_)
  have hS3 : S3 a = oO 3 [.ref (a + 1), .null, .int (iI 0), .int (iI 0), .int (iI 0), .int (iI 0), .int (iI 0), .int (iI 0), .int (iI 0)] := hS3
  refine lv_aload_n hc.1 hc.2.1 dX3_init_12 rfl (lv_at hl 0 rfl) ?_
  refine nn_bipush hc dX3_init_13 (by decide +kernel) ?_
  refine nn_newI (N := 60) hc hw lkAint (by decide) rfl (Nat.le_of_ble_eq_true rfl) (Nat.le_of_ble_eq_true rfl) (Nat.le_of_ble_eq_true rfl) dX3_init_15 (fun S4 H hS4 fS4 hw => ?_)
  have hS4 : S4 (a + 2) = oI g 60 (fun _ => 0) := hS4
  have hw : g_W g (a + 3) S4 s H locs := hw
  refine W.cs (cells' := 2) (slots' := 120) (by decide) (by decide) ?_
  have e5 : S4 a = oO 3 [.ref (a + 1), .null, .int (iI 0), .int (iI 0), .int (iI 0), .int (iI 0), .int (iI 0), .int (iI 0), .int (iI 0)] := (fS4 a (by omega)).trans hS3
  refine nn_putF hc hnm hw e5 hiX3 tyX3 tyX3_ok nmX3 rfl 1 (by decide) (Nat.le_of_ble_eq_true rfl) lk15 rfl rfl rfl rfl dX3_init_17 (fun S6 H locs hS6 fS6 hw => ?_)
  have hS6 : S6 a = oO 3 [.ref (a + 1), .ref (a + 2), .int (iI 0), .int (iI 0), .int (iI 0), .int (iI 0), .int (iI 0), .int (iI 0), .int (iI 0)] := hS6
  have e7 : S3 (a + 1) = oI g 60 (fun _ => 0) := (fS3 (a + 1) (by omega)).trans hS1
  have e8 : S4 (a + 1) = oI g 60 (fun _ => 0) := (fS4 (a + 1) (by omega)).trans e7
  have e9 : S6 (a + 1) = oI g 60 (fun _ => 0) := (fS6 (a + 1) (by omega)).trans e8
  have e10 : S6 (a + 2) = oI g 60 (fun _ => 0) := (fS6 (a + 2) (by omega)).trans hS4
  exact hret none _ S6 _ _ _ _ hw (⟨rfl, rfl, hS6, e9, e10, fun b hb0 hb1 hb2 => ((((fS6 b hb0)).trans (fS4 b hb2)).trans (fS3 b hb0)).trans (fS1 b hb1)⟩) ⟨rfl, dX3_init_20⟩

set_option maxHeartbeats 4000000 in
set_option maxRecDepth 100000 in
theorem c_X3_begin (l : Launch) (g : gG) {n : Nat} {S : Nat → gE} {a : Nat} {cL cF cG cR cZ cW cU : Int} {bL bF bG bR : Int} (ha : S a = oO 3 [.ref (a + 1), .ref (a + 2), .int (iI cL), .int (iI cF), .int (iI cG), .int (iI cR), .int (iI cZ), .int (iI cW), .int (iI cU)])  : g_Cs l yX3_begin wsX3_begin { frames := 0, cells := 0, slots := 0, locals := 0 } g [.ref a, .int (iI bL), .int (iI bF), .int (iI bG), .int (iI bR)] n S (fun vr n1 S1 => vr = none ∧ n = n1 ∧ S1 a = oO 3 [.ref (a + 1), .ref (a + 2), .int (iI bL), .int (iI bF), .int (iI bG), .int (iI bR), .int (iI 0), .int (iI 0), .int (iI 0)] ∧ (∀ b, b ≠ a → S1 b = S b)) 0 0 := by
  refine g_Cs.of (cc := cX3_begin) (maxL := 5) (ret := none) (by decide) rfl (Nat.le_of_ble_eq_true rfl) ?_
  intro pp ee s m below meth c Q H locs ls hc hnm hw hl hret
  have hl : lv_has ls 5 [(0, .ref a), (1, .int (iI bL)), (2, .int (iI bF)), (3, .int (iI bG)), (4, .int (iI bR))] := hl
  have hiX3 : ∀ w ∈ u_ws RX3 TX3 9, w ∈ wsX3_begin := by decide +kernel
  have lk18 : Cond.fieldLink RX3 18 "RoofCourses$Course" "length" "I" ∈ wsX3_begin := by decide +kernel
  have lk22 : Cond.fieldLink RX3 22 "RoofCourses$Course" "foot" "I" ∈ wsX3_begin := by decide +kernel
  have lk25 : Cond.fieldLink RX3 25 "RoofCourses$Course" "gauge" "I" ∈ wsX3_begin := by decide +kernel
  have lk28 : Cond.fieldLink RX3 28 "RoofCourses$Course" "room" "I" ∈ wsX3_begin := by decide +kernel
  have lk31 : Cond.fieldLink RX3 31 "RoofCourses$Course" "size" "I" ∈ wsX3_begin := by decide +kernel
  have lk34 : Cond.fieldLink RX3 34 "RoofCourses$Course" "waste" "I" ∈ wsX3_begin := by decide +kernel
  have lk37 : Cond.fieldLink RX3 37 "RoofCourses$Course" "cut" "I" ∈ wsX3_begin := by decide +kernel
  refine lv_aload_n hc.1 hc.2.1 dX3_begin_0 rfl (lv_at hl 0 rfl) ?_
  refine lv_iload_n hc.1 hc.2.1 dX3_begin_1 rfl (lv_at hl 1 rfl) ?_
  refine nn_put hc hw ha hiX3 tyX3 tyX3_ok nmX3 rfl 2 (by decide) (Nat.le_of_ble_eq_true rfl) lk18 rfl rfl rfl dX3_begin_2 (fun S1 H locs hS1 fS1 hw => ?_)
  have hS1 : S1 a = oO 3 [.ref (a + 1), .ref (a + 2), .int (iI bL), .int (iI cF), .int (iI cG), .int (iI cR), .int (iI cZ), .int (iI cW), .int (iI cU)] := hS1
  refine lv_aload_n hc.1 hc.2.1 dX3_begin_5 rfl (lv_at hl 0 rfl) ?_
  refine lv_iload_n hc.1 hc.2.1 dX3_begin_6 rfl (lv_at hl 2 rfl) ?_
  refine nn_put hc hw hS1 hiX3 tyX3 tyX3_ok nmX3 rfl 3 (by decide) (Nat.le_of_ble_eq_true rfl) lk22 rfl rfl rfl dX3_begin_7 (fun S2 H locs hS2 fS2 hw => ?_)
  have hS2 : S2 a = oO 3 [.ref (a + 1), .ref (a + 2), .int (iI bL), .int (iI bF), .int (iI cG), .int (iI cR), .int (iI cZ), .int (iI cW), .int (iI cU)] := hS2
  refine lv_aload_n hc.1 hc.2.1 dX3_begin_10 rfl (lv_at hl 0 rfl) ?_
  refine lv_iload_n hc.1 hc.2.1 dX3_begin_11 rfl (lv_at hl 3 rfl) ?_
  refine nn_put hc hw hS2 hiX3 tyX3 tyX3_ok nmX3 rfl 4 (by decide) (Nat.le_of_ble_eq_true rfl) lk25 rfl rfl rfl dX3_begin_12 (fun S3 H locs hS3 fS3 hw => ?_)
  have hS3 : S3 a = oO 3 [.ref (a + 1), .ref (a + 2), .int (iI bL), .int (iI bF), .int (iI bG), .int (iI cR), .int (iI cZ), .int (iI cW), .int (iI cU)] := hS3
  refine lv_aload_n hc.1 hc.2.1 dX3_begin_15 rfl (lv_at hl 0 rfl) ?_
  refine lv_iload hc.1 hc.2.1 dX3_begin_16 (lv_at hl 4 rfl) ?_
  refine nn_put hc hw hS3 hiX3 tyX3 tyX3_ok nmX3 rfl 5 (by decide) (Nat.le_of_ble_eq_true rfl) lk28 rfl rfl rfl dX3_begin_18 (fun S4 H locs hS4 fS4 hw => ?_)
  have hS4 : S4 a = oO 3 [.ref (a + 1), .ref (a + 2), .int (iI bL), .int (iI bF), .int (iI bG), .int (iI bR), .int (iI cZ), .int (iI cW), .int (iI cU)] := hS4
  refine lv_aload_n hc.1 hc.2.1 dX3_begin_21 rfl (lv_at hl 0 rfl) ?_
  refine nn_iconst hc dX3_begin_22 ?_
  refine nn_put hc hw hS4 hiX3 tyX3 tyX3_ok nmX3 rfl 6 (by decide) (Nat.le_of_ble_eq_true rfl) lk31 rfl rfl rfl dX3_begin_23 (fun S5 H locs hS5 fS5 hw => ?_)
  have hS5 : S5 a = oO 3 [.ref (a + 1), .ref (a + 2), .int (iI bL), .int (iI bF), .int (iI bG), .int (iI bR), .int (iI 0), .int (iI cW), .int (iI cU)] := hS5
  refine lv_aload_n hc.1 hc.2.1 dX3_begin_26 rfl (lv_at hl 0 rfl) ?_
  refine nn_iconst hc dX3_begin_27 ?_
  refine nn_put hc hw hS5 hiX3 tyX3 tyX3_ok nmX3 rfl 7 (by decide) (Nat.le_of_ble_eq_true rfl) lk34 rfl rfl rfl dX3_begin_28 (fun S6 H locs hS6 fS6 hw => ?_)
  have hS6 : S6 a = oO 3 [.ref (a + 1), .ref (a + 2), .int (iI bL), .int (iI bF), .int (iI bG), .int (iI bR), .int (iI 0), .int (iI 0), .int (iI cU)] := hS6
  refine lv_aload_n hc.1 hc.2.1 dX3_begin_31 rfl (lv_at hl 0 rfl) ?_
  refine nn_iconst hc dX3_begin_32 ?_
  refine nn_put hc hw hS6 hiX3 tyX3 tyX3_ok nmX3 rfl 8 (by decide) (Nat.le_of_ble_eq_true rfl) lk37 rfl rfl rfl dX3_begin_33 (fun S7 H locs hS7 fS7 hw => ?_)
  have hS7 : S7 a = oO 3 [.ref (a + 1), .ref (a + 2), .int (iI bL), .int (iI bF), .int (iI bG), .int (iI bR), .int (iI 0), .int (iI 0), .int (iI 0)] := hS7
  exact hret none _ S7 _ _ _ _ hw (⟨rfl, rfl, hS7, fun b hb0 => (((((((fS7 b hb0)).trans (fS6 b hb0)).trans (fS5 b hb0)).trans (fS4 b hb0)).trans (fS3 b hb0)).trans (fS2 b hb0)).trans (fS1 b hb0)⟩) ⟨rfl, dX3_begin_36⟩

set_option maxHeartbeats 4000000 in
set_option maxRecDepth 100000 in
theorem c_X3_put (l : Launch) (g : gG) {n : Nat} {S : Nat → gE} {a : Nat} {cL cF cG cR cZ cW cU : Int} {ph pb pv : Int} {hf ed : Nat → Int} (ha : S a = oO 3 [.ref (a + 1), .ref (a + 2), .int (iI cL), .int (iI cF), .int (iI cG), .int (iI cR), .int (iI cZ), .int (iI cW), .int (iI cU)]) (hh : S (a + 1) = oI g 60 hf) (he : S (a + 2) = oI g 60 ed) (rZ : 0 ≤ cZ ∧ cZ < 60) (r_pb : -2147483648 ≤ pb ∧ pb < 2147483648) (r_pv : -2147483648 ≤ pv ∧ pv < 2147483648) : g_Cs l yX3_put wsX3_put { frames := 1, cells := 0, slots := 0, locals := 21 } g [.ref a, .int (iI ph), .int (iI pb), .int (iI pv)] n S (fun vr n1 S1 => vr = none ∧ n = n1 ∧ S1 a = oO 3 [.ref (a + 1), .ref (a + 2), .int (iI cL), .int (iI cF), .int (iI cG), .int (iI cR), .int (iI (cZ + 1)), .int (iI (cW + (if pv < pb then (pb - pv) * cL else 0))), .int (iI (cU + (if pv < pb then 1 else 0)))] ∧ S1 (a + 1) = oI g 60 (va_up hf cZ.toNat ph) ∧ S1 (a + 2) = oI g 60 (va_up ed cZ.toNat ((if 0 < cZ ∧ cZ ≤ 60 then ed (cZ - 1).toNat else 0) + pv)) ∧ (∀ b, b ≠ a → b ≠ (a + 1) → b ≠ (a + 2) → S1 b = S b)) 0 0 := by
  refine g_Cs.of (cc := cX3_put) (maxL := 4) (ret := none) (by decide) rfl (Nat.le_of_ble_eq_true rfl) ?_
  intro pp ee s m below meth c Q H locs ls hc hnm hw hl hret
  have hl : lv_has ls 4 [(0, .ref a), (1, .int (iI ph)), (2, .int (iI pb)), (3, .int (iI pv))] := hl
  have hiX3 : ∀ w ∈ u_ws RX3 TX3 9, w ∈ wsX3_put := by decide +kernel
  have lk31 : Cond.fieldLink RX3 31 "RoofCourses$Course" "size" "I" ∈ wsX3_put := by decide +kernel
  have lk9 : Cond.fieldLink RX3 9 "RoofCourses$Course" "heapOf" "[I" ∈ wsX3_put := by decide +kernel
  have lk15 : Cond.fieldLink RX3 15 "RoofCourses$Course" "edge" "[I" ∈ wsX3_put := by decide +kernel
  have lk37 : Cond.fieldLink RX3 37 "RoofCourses$Course" "cut" "I" ∈ wsX3_put := by decide +kernel
  have lk34 : Cond.fieldLink RX3 34 "RoofCourses$Course" "waste" "I" ∈ wsX3_put := by decide +kernel
  have lk18 : Cond.fieldLink RX3 18 "RoofCourses$Course" "length" "I" ∈ wsX3_put := by decide +kernel
  refine lv_aload_n hc.1 hc.2.1 dX3_put_0 rfl (lv_at hl 0 rfl) ?_
  refine nn_get hc hw ha hiX3 rfl 6 (by decide) rfl lk31 dX3_put_1 ?_
  refine nn_bipush hc dX3_put_4 (by decide +kernel) ?_
  refine nn_icmp_lt hc dX3_put_6 (tgt := 10) (by decide) (by omega) (by decide) (fun c1 => ?_) (fun c1 => ?_)
  · refine lv_aload_n hc.1 hc.2.1 dX3_put_10 rfl (lv_at hl 0 rfl) ?_
    refine nn_get hc hw ha hiX3 rfl 0 (by decide) rfl lk9 dX3_put_11 ?_
    refine lv_aload_n hc.1 hc.2.1 dX3_put_14 rfl (lv_at hl 0 rfl) ?_
    refine nn_get hc hw ha hiX3 rfl 6 (by decide) rfl lk31 dX3_put_15 ?_
    refine lv_iload_n hc.1 hc.2.1 dX3_put_18 rfl (lv_at hl 1 rfl) ?_
    refine nn_iast hc hw hh (by omega) (by omega) dX3_put_19 (fun S2 H locs hS2 fS2 hw => ?_)
    refine lv_aload_n hc.1 hc.2.1 dX3_put_20 rfl (lv_at hl 0 rfl) ?_
    have e3 : S2 a = oO 3 [.ref (a + 1), .ref (a + 2), .int (iI cL), .int (iI cF), .int (iI cG), .int (iI cR), .int (iI cZ), .int (iI cW), .int (iI cU)] := (fS2 a (by omega)).trans ha
    refine nn_get hc hw e3 hiX3 rfl 1 (by decide) rfl lk15 dX3_put_21 ?_
    refine lv_aload_n hc.1 hc.2.1 dX3_put_24 rfl (lv_at hl 0 rfl) ?_
    refine nn_get hc hw e3 hiX3 rfl 6 (by decide) rfl lk31 dX3_put_25 ?_
    refine lv_aload_n hc.1 hc.2.1 dX3_put_28 rfl (lv_at hl 0 rfl) ?_
    refine lv_aload_n hc.1 hc.2.1 dX3_put_29 rfl (lv_at hl 0 rfl) ?_
    refine nn_get hc hw e3 hiX3 rfl 6 (by decide) rfl lk31 dX3_put_30 ?_
    have e4 : S2 (a + 2) = oI g 60 ed := (fS2 (a + 2) (by omega)).trans he
    refine nn_Vp (As := [.int (iI cZ)]) (st := [.int (iI cZ), .ref (a + 2)]) hc hw e3 rfl (c_X3_startOf l g  e3 e4 (by omega)) (cwV 1 hc.2.2.2.2 gX3_put_X3_startOf rfl rfl rfl (by decide +kernel) ⟨Nat.le_of_ble_eq_true rfl, Nat.le_of_ble_eq_true rfl⟩) rfl hl.1 rfl (Nat.le_of_ble_eq_true rfl) ⟨Nat.le_of_ble_eq_true rfl, Nat.le_of_ble_eq_true rfl⟩ dX3_put_33 ?_
    refine W.eq (g2 := F0 m 36 ls [.int (iI (if 0 < cZ ∧ cZ ≤ 60 then ed (cZ - 1).toNat else 0)), .int (iI cZ), .ref (a + 2)]) rfl ?_
    refine lv_iload_n hc.1 hc.2.1 dX3_put_36 rfl (lv_at hl 3 rfl) ?_
    refine nn_iadd hc dX3_put_37 ?_
    refine nn_iast hc hw e4 (by omega) (by omega) dX3_put_38 (fun S5 H locs hS5 fS5 hw => ?_)
    refine lv_aload_n hc.1 hc.2.1 dX3_put_39 rfl (lv_at hl 0 rfl) ?_
    refine lv_dup hc.1 hc.2.1 dX3_put_40 rfl ?_
    have e6 : S2 a = oO 3 [.ref (a + 1), .ref (a + 2), .int (iI cL), .int (iI cF), .int (iI cG), .int (iI cR), .int (iI cZ), .int (iI cW), .int (iI cU)] := (fS2 a (by omega)).trans ha
    have e7 : S5 a = oO 3 [.ref (a + 1), .ref (a + 2), .int (iI cL), .int (iI cF), .int (iI cG), .int (iI cR), .int (iI cZ), .int (iI cW), .int (iI cU)] := (fS5 a (by omega)).trans e6
    refine nn_get hc hw e7 hiX3 rfl 6 (by decide) rfl lk31 dX3_put_41 ?_
    refine nn_iconst hc dX3_put_44 ?_
    refine nn_iadd hc dX3_put_45 ?_
    refine nn_put hc hw e7 hiX3 tyX3 tyX3_ok nmX3 rfl 6 (by decide) (Nat.le_of_ble_eq_true rfl) lk31 rfl rfl rfl dX3_put_46 (fun S8 H locs hS8 fS8 hw => ?_)
    have hS8 : S8 a = oO 3 [.ref (a + 1), .ref (a + 2), .int (iI cL), .int (iI cF), .int (iI cG), .int (iI cR), .int (iI (cZ + 1)), .int (iI cW), .int (iI cU)] := hS8
    refine lv_iload_n hc.1 hc.2.1 dX3_put_49 rfl (lv_at hl 3 rfl) ?_
    refine lv_iload_n hc.1 hc.2.1 dX3_put_50 rfl (lv_at hl 2 rfl) ?_
    refine nn_icmp_ge hc dX3_put_51 (tgt := 81) (by decide) (by omega) (by omega) (fun c9 => ?_) (fun c9 => ?_)
    · have e10 : S5 (a + 1) = oI g 60 (va_up hf cZ.toNat ph) := (fS5 (a + 1) (by omega)).trans hS2
      have e11 : S8 (a + 1) = oI g 60 (va_up hf cZ.toNat ph) := (fS8 (a + 1) (by omega)).trans e10
      have e12 : S8 (a + 2) = oI g 60 (va_up ed cZ.toNat ((if 0 < cZ ∧ cZ ≤ 60 then ed (cZ - 1).toNat else 0) + pv)) := (fS8 (a + 2) (by omega)).trans hS5
      exact hret none _ S8 _ _ _ _ hw (⟨rfl, rfl, (by first | (rw [if_pos (by omega), if_pos (by omega)]; exact hS8) | (rw [if_neg (by omega), if_neg (by omega), Int.add_zero, Int.add_zero]; exact hS8)), e11, e12, fun b hb0 hb1 hb2 => (((fS8 b hb0)).trans (fS5 b hb2)).trans (fS2 b hb1)⟩) ⟨rfl, dX3_put_81⟩
    · refine lv_aload_n hc.1 hc.2.1 dX3_put_54 rfl (lv_at hl 0 rfl) ?_
      refine lv_dup hc.1 hc.2.1 dX3_put_55 rfl ?_
      refine nn_get hc hw hS8 hiX3 rfl 8 (by decide) rfl lk37 dX3_put_56 ?_
      refine nn_iconst hc dX3_put_59 ?_
      refine nn_iadd hc dX3_put_60 ?_
      refine nn_put hc hw hS8 hiX3 tyX3 tyX3_ok nmX3 rfl 8 (by decide) (Nat.le_of_ble_eq_true rfl) lk37 rfl rfl rfl dX3_put_61 (fun S13 H locs hS13 fS13 hw => ?_)
      have hS13 : S13 a = oO 3 [.ref (a + 1), .ref (a + 2), .int (iI cL), .int (iI cF), .int (iI cG), .int (iI cR), .int (iI (cZ + 1)), .int (iI cW), .int (iI (cU + 1))] := hS13
      refine lv_aload_n hc.1 hc.2.1 dX3_put_64 rfl (lv_at hl 0 rfl) ?_
      refine lv_dup hc.1 hc.2.1 dX3_put_65 rfl ?_
      refine nn_get hc hw hS13 hiX3 rfl 7 (by decide) rfl lk34 dX3_put_66 ?_
      refine lv_iload_n hc.1 hc.2.1 dX3_put_69 rfl (lv_at hl 2 rfl) ?_
      refine lv_iload_n hc.1 hc.2.1 dX3_put_70 rfl (lv_at hl 3 rfl) ?_
      refine nn_isub hc dX3_put_71 ?_
      refine lv_aload_n hc.1 hc.2.1 dX3_put_72 rfl (lv_at hl 0 rfl) ?_
      refine nn_get hc hw hS13 hiX3 rfl 2 (by decide) rfl lk18 dX3_put_73 ?_
      refine nn_imul hc dX3_put_76 ?_
      refine nn_iadd hc dX3_put_77 ?_
      refine nn_put hc hw hS13 hiX3 tyX3 tyX3_ok nmX3 rfl 7 (by decide) (Nat.le_of_ble_eq_true rfl) lk34 rfl rfl rfl dX3_put_78 (fun S14 H locs hS14 fS14 hw => ?_)
      have hS14 : S14 a = oO 3 [.ref (a + 1), .ref (a + 2), .int (iI cL), .int (iI cF), .int (iI cG), .int (iI cR), .int (iI (cZ + 1)), .int (iI (cW + ((pb - pv) * cL))), .int (iI (cU + 1))] := hS14
      have e15 : S5 (a + 1) = oI g 60 (va_up hf cZ.toNat ph) := (fS5 (a + 1) (by omega)).trans hS2
      have e16 : S8 (a + 1) = oI g 60 (va_up hf cZ.toNat ph) := (fS8 (a + 1) (by omega)).trans e15
      have e17 : S13 (a + 1) = oI g 60 (va_up hf cZ.toNat ph) := (fS13 (a + 1) (by omega)).trans e16
      have e18 : S14 (a + 1) = oI g 60 (va_up hf cZ.toNat ph) := (fS14 (a + 1) (by omega)).trans e17
      have e19 : S8 (a + 2) = oI g 60 (va_up ed cZ.toNat ((if 0 < cZ ∧ cZ ≤ 60 then ed (cZ - 1).toNat else 0) + pv)) := (fS8 (a + 2) (by omega)).trans hS5
      have e20 : S13 (a + 2) = oI g 60 (va_up ed cZ.toNat ((if 0 < cZ ∧ cZ ≤ 60 then ed (cZ - 1).toNat else 0) + pv)) := (fS13 (a + 2) (by omega)).trans e19
      have e21 : S14 (a + 2) = oI g 60 (va_up ed cZ.toNat ((if 0 < cZ ∧ cZ ≤ 60 then ed (cZ - 1).toNat else 0) + pv)) := (fS14 (a + 2) (by omega)).trans e20
      exact hret none _ S14 _ _ _ _ hw (⟨rfl, rfl, (by first | (rw [if_pos (by omega), if_pos (by omega)]; exact hS14) | (rw [if_neg (by omega), if_neg (by omega), Int.add_zero, Int.add_zero]; exact hS14)), e18, e21, fun b hb0 hb1 hb2 => (((((fS14 b hb0)).trans (fS13 b hb0)).trans (fS8 b hb0)).trans (fS5 b hb2)).trans (fS2 b hb1)⟩) ⟨rfl, dX3_put_81⟩
  · exfalso; omega

set_option maxHeartbeats 4000000 in
set_option maxRecDepth 100000 in
theorem c_X5_gaugeOf (l : Launch) (g : gG) {n : Nat} {S : Nat → gE} {pl : Nat} {nH pHi pWi pLp pBk pHp : Int} {x : Int} (hp : S pl = oO 5 [.ref (pl + 1), .ref (pl + 2), .ref (pl + 3), .int (iI nH), .int (iI pHi), .int (iI pWi), .int (iI pLp), .int (iI pBk), .int (iI pHp)]) (rx : 0 ≤ x - pLp ∧ x - pLp < 2147483648) : g_Cp l yX5_gaugeOf wsX5_gaugeOf { frames := 0, cells := 0, slots := 0, locals := 0 } g [.ref pl, .int (iI x)] n S (some (.int (iI ((x - pLp) / 2)))) := by
  refine g_Cp.of (cc := cX5_gaugeOf) (maxL := 2) (ret := (some .int)) (by decide) rfl (Nat.le_of_ble_eq_true rfl) ?_
  intro pp ee s m below meth c Q ls hc hnm hw hl hret
  have hl : lv_has ls 2 [(0, .ref pl), (1, .int (iI x))] := hl
  have hiX5 : ∀ w ∈ u_ws RX5 TX5 9, w ∈ wsX5_gaugeOf := by decide +kernel
  have lk31 : Cond.fieldLink RX5 31 "RoofCourses$Plan" "lap" "I" ∈ wsX5_gaugeOf := by decide +kernel
  have hrt : ∀ (pc : Nat) (ls : Array Slot) (xr : Int), decode cX5_gaugeOf pc = .ok (.ireturn, 1) → xr = ((x - pLp) / 2) → W pp l ee ({ frames := 0, cells := 0, slots := 0, locals := 0 } : Room) s m ([.ref pl, .int (iI x)] : List Value).toArray below meth c s.heap [] 0 0 Q (F0 m pc ls [.int (iI xr)]) := fun pc ls xr d hx => by subst hx; exact hret pc ls ⟨_, rfl, rfl, d⟩
  refine lv_iload_n hc.1 hc.2.1 dX5_gaugeOf_0 rfl (lv_at hl 1 rfl) ?_
  refine lv_aload_n hc.1 hc.2.1 dX5_gaugeOf_1 rfl (lv_at hl 0 rfl) ?_
  refine nn_get hc hw hp hiX5 rfl 6 (by decide) rfl lk31 dX5_gaugeOf_2 ?_
  refine nn_isub hc dX5_gaugeOf_5 ?_
  refine nn_iconst hc dX5_gaugeOf_6 ?_
  refine nn_idiv hc dX5_gaugeOf_7 (by omega) (by omega) ?_
  exact hrt _ _ _ dX5_gaugeOf_8 (by first | rfl | omega | (split <;> omega))

set_option maxHeartbeats 4000000 in
set_option maxRecDepth 100000 in
theorem c_X5_roomAt (l : Launch) (g : gG) {n : Nat} {S : Nat → gE} {pl : Nat} {nH pHi pWi pLp pBk pHp : Int} {x : Int} (hp : S pl = oO 5 [.ref (pl + 1), .ref (pl + 2), .ref (pl + 3), .int (iI nH), .int (iI pHi), .int (iI pWi), .int (iI pLp), .int (iI pBk), .int (iI pHp)]) (rx : 0 ≤ pHp * x ∧ pHp * x < 2147483648) (rw : 0 ≤ pWi ∧ pWi < 2147483648) : g_Cp l yX5_roomAt wsX5_roomAt { frames := 1, cells := 0, slots := 0, locals := 13 } g [.ref pl, .int (iI x)] n S (some (.int (iI (rmF pWi pHp x)))) := by
  refine g_Cp.of (cc := cX5_roomAt) (maxL := 2) (ret := (some .int)) (by decide) rfl (Nat.le_of_ble_eq_true rfl) ?_
  intro pp ee s m below meth c Q ls hc hnm hw hl hret
  have hl : lv_has ls 2 [(0, .ref pl), (1, .int (iI x))] := hl
  have hiX5 : ∀ w ∈ u_ws RX5 TX5 9, w ∈ wsX5_roomAt := by decide +kernel
  have lk28 : Cond.fieldLink RX5 28 "RoofCourses$Plan" "wide" "I" ∈ wsX5_roomAt := by decide +kernel
  have lk37 : Cond.fieldLink RX5 37 "RoofCourses$Plan" "hip" "I" ∈ wsX5_roomAt := by decide +kernel
  have lkM72 : Cond.methodLink RX5 72 Lib.Math.max.name ∈ wsX5_roomAt := by decide +kernel
  have lkMsmax : Cond.static Lib.Math.max.name ∈ wsX5_roomAt := by decide +kernel
  have lkMi : Cond.initialized "java/lang/Math" ∈ wsX5_roomAt := by decide +kernel
  have lkMcmax : Cond.code Lib.Math.max.name Lib.Math.max.code 2 (some .int) ∈ wsX5_roomAt := by decide +kernel
  have hrt : ∀ (pc : Nat) (ls : Array Slot) (xr : Int), decode cX5_roomAt pc = .ok (.ireturn, 1) → xr = (rmF pWi pHp x) → W pp l ee ({ frames := 1, cells := 0, slots := 0, locals := 13 } : Room) s m ([.ref pl, .int (iI x)] : List Value).toArray below meth c s.heap [] 0 0 Q (F0 m pc ls [.int (iI xr)]) := fun pc ls xr d hx => by subst hx; exact hret pc ls ⟨_, rfl, rfl, d⟩
  refine nn_bipush hc dX5_roomAt_0 (by decide +kernel) ?_
  refine lv_aload_n hc.1 hc.2.1 dX5_roomAt_2 rfl (lv_at hl 0 rfl) ?_
  refine nn_get hc hw hp hiX5 rfl 5 (by decide) rfl lk28 dX5_roomAt_3 ?_
  refine lv_aload_n hc.1 hc.2.1 dX5_roomAt_6 rfl (lv_at hl 0 rfl) ?_
  refine nn_get hc hw hp hiX5 rfl 8 (by decide) rfl lk37 dX5_roomAt_7 ?_
  refine lv_iload_n hc.1 hc.2.1 dX5_roomAt_10 rfl (lv_at hl 1 rfl) ?_
  refine nn_imul hc dX5_roomAt_11 ?_
  refine nn_bipush hc dX5_roomAt_12 (by decide +kernel) ?_
  refine nn_idiv hc dX5_roomAt_14 (by omega) (by omega) ?_
  refine nn_isub hc dX5_roomAt_15 ?_
  refine nn_max hc hl.1 (by decide) (by omega) lkM72 lkMsmax lkMi lkMcmax (Nat.le_of_ble_eq_true rfl) (Nat.le_of_ble_eq_true rfl) ⟨Nat.zero_le _, Nat.zero_le _⟩ dX5_roomAt_16 ?_
  exact hrt _ _ _ dX5_roomAt_19 (by first | rfl | omega | (split <;> omega))

set_option maxHeartbeats 4000000 in
set_option maxRecDepth 100000 in
theorem c_X5_isReadyBy (l : Launch) (g : gG) {n : Nat} {S : Nat → gE} {pl : Nat} {nH pHi pWi pLp pBk pHp : Int} {a : Nat} {cL cF cG cR cZ cW cU : Int} (hp : S pl = oO 5 [.ref (pl + 1), .ref (pl + 2), .ref (pl + 3), .int (iI nH), .int (iI pHi), .int (iI pWi), .int (iI pLp), .int (iI pBk), .int (iI pHp)]) (ha : S a = oO 3 [.ref (a + 1), .ref (a + 2), .int (iI cL), .int (iI cF), .int (iI cG), .int (iI cR), .int (iI cZ), .int (iI cW), .int (iI cU)]) (r1 : -2147483648 ≤ cF + cG ∧ cF + cG < 2147483648) (r2 : -2147483648 ≤ pHi ∧ pHi < 2147483648) : g_Cp l yX5_isReadyBy wsX5_isReadyBy { frames := 1, cells := 0, slots := 0, locals := 20 } g [.ref pl, .ref a] n S (some (.int (iI (if pHi ≤ cF + cG then 1 else 0)))) := by
  refine g_Cp.of (cc := cX5_isReadyBy) (maxL := 2) (ret := (some .boolean)) (by decide) rfl (Nat.le_of_ble_eq_true rfl) ?_
  intro pp ee s m below meth c Q ls hc hnm hw hl hret
  have hl : lv_has ls 2 [(0, .ref pl), (1, .ref a)] := hl
  have hiX5 : ∀ w ∈ u_ws RX5 TX5 9, w ∈ wsX5_isReadyBy := by decide +kernel
  have lk25 : Cond.fieldLink RX5 25 "RoofCourses$Plan" "high" "I" ∈ wsX5_isReadyBy := by decide +kernel
  have hrt : ∀ (pc : Nat) (ls : Array Slot) (xr : Int), decode cX5_isReadyBy pc = .ok (.ireturn, 1) → xr = (if pHi ≤ cF + cG then 1 else 0) → W pp l ee ({ frames := 1, cells := 0, slots := 0, locals := 20 } : Room) s m ([.ref pl, .ref a] : List Value).toArray below meth c s.heap [] 0 0 Q (F0 m pc ls [.int (iI xr)]) := fun pc ls xr d hx => by subst hx; exact hret pc ls ⟨_, rfl, nn_nb _, d⟩
  refine lv_aload_n hc.1 hc.2.1 dX5_isReadyBy_0 rfl (lv_at hl 1 rfl) ?_
  refine nn_Vp (As := []) (st := []) hc hw ha rfl (c_X3_head l g  ha ) (cwV 0 hc.2.2.2.2 gX5_isReadyBy_X3_head rfl rfl rfl (by decide +kernel) ⟨Nat.le_of_ble_eq_true rfl, Nat.le_of_ble_eq_true rfl⟩) rfl hl.1 rfl (Nat.le_of_ble_eq_true rfl) ⟨Nat.le_of_ble_eq_true rfl, Nat.le_of_ble_eq_true rfl⟩ dX5_isReadyBy_1 ?_
  refine W.eq (g2 := F0 m 4 ls [.int (iI (cF + cG))]) rfl ?_
  refine lv_aload_n hc.1 hc.2.1 dX5_isReadyBy_4 rfl (lv_at hl 0 rfl) ?_
  refine nn_get hc hw hp hiX5 rfl 4 (by decide) rfl lk25 dX5_isReadyBy_5 ?_
  refine nn_icmp_lt hc dX5_isReadyBy_8 (tgt := 15) (by decide) (by omega) (by omega) (fun c1 => ?_) (fun c1 => ?_)
  · refine nn_iconst hc dX5_isReadyBy_15 ?_
    exact hrt _ _ _ dX5_isReadyBy_16 (by first | rfl | omega | (split <;> omega))
  · refine nn_iconst hc dX5_isReadyBy_11 ?_
    refine lv_goto hc.1 hc.2.1 dX5_isReadyBy_12 (tgt := 16) (by decide) ?_
    exact hrt _ _ _ dX5_isReadyBy_16 (by first | rfl | omega | (split <;> omega))

set_option maxHeartbeats 4000000 in
set_option maxRecDepth 100000 in
theorem c_X4_serves (l : Launch) (g : gG) {n : Nat} {S : Nat → gE} {y : Nat} {pl : Nat} {nH pHi pWi pLp pBk pHp : Int} {ln rs : Nat → Int} {a : Nat} {cL cF cG cR cZ cW cU : Int} {h : Int} (hy : S y = oO 4 [.ref pl, .ref (y + 1)]) (hp : S pl = oO 5 [.ref (pl + 1), .ref (pl + 2), .ref (pl + 3), .int (iI nH), .int (iI pHi), .int (iI pWi), .int (iI pLp), .int (iI pBk), .int (iI pHp)]) (hln : S (pl + 1) = oI g 8 ln) (hrs : S (y + 1) = oI g 8 rs) (ha : S a = oO 3 [.ref (a + 1), .ref (a + 2), .int (iI cL), .int (iI cF), .int (iI cG), .int (iI cR), .int (iI cZ), .int (iI cW), .int (iI cU)]) (rh : 0 ≤ h ∧ h < 8) (r1 : -1000000000 ≤ ln h.toNat ∧ ln h.toNat ≤ 1000000000) (r2 : -1000000000 ≤ rs h.toNat ∧ rs h.toNat ≤ 1000000000) (r3 : -1000000000 ≤ cL ∧ cL ≤ 1000000000) : g_Cp l yX4_serves wsX4_serves { frames := 0, cells := 0, slots := 0, locals := 0 } g [.ref y, .int (iI h), .ref a] n S (some (.int (iI (if ln h.toNat = cL ∧ 0 < rs h.toNat then 1 else 0)))) := by
  refine g_Cp.of (cc := cX4_serves) (maxL := 3) (ret := (some .boolean)) (by decide) rfl (Nat.le_of_ble_eq_true rfl) ?_
  intro pp ee s m below meth c Q ls hc hnm hw hl hret
  have hl : lv_has ls 3 [(0, .ref y), (1, .int (iI h)), (2, .ref a)] := hl
  have hiX4 : ∀ w ∈ u_ws RX4 TX4 2, w ∈ wsX4_serves := by decide +kernel
  have hiX5 : ∀ w ∈ u_ws RX5 TX5 9, w ∈ wsX4_serves := by decide +kernel
  have hiX3 : ∀ w ∈ u_ws RX3 TX3 9, w ∈ wsX4_serves := by decide +kernel
  have lk15 : Cond.fieldLink RX4 15 "RoofCourses$Layer" "plan" "LRoofCourses$Plan;" ∈ wsX4_serves := by decide +kernel
  have lk81 : Cond.fieldLink RX4 81 "RoofCourses$Plan" "length" "[I" ∈ wsX4_serves := by decide +kernel
  have lk84 : Cond.fieldLink RX4 84 "RoofCourses$Course" "length" "I" ∈ wsX4_serves := by decide +kernel
  have lk9 : Cond.fieldLink RX4 9 "RoofCourses$Layer" "rest" "[I" ∈ wsX4_serves := by decide +kernel
  have hrt : ∀ (pc : Nat) (ls : Array Slot) (xr : Int), decode cX4_serves pc = .ok (.ireturn, 1) → xr = (if ln h.toNat = cL ∧ 0 < rs h.toNat then 1 else 0) → W pp l ee ({ frames := 0, cells := 0, slots := 0, locals := 0 } : Room) s m ([.ref y, .int (iI h), .ref a] : List Value).toArray below meth c s.heap [] 0 0 Q (F0 m pc ls [.int (iI xr)]) := fun pc ls xr d hx => by subst hx; exact hret pc ls ⟨_, rfl, nn_nb _, d⟩
  refine lv_aload_n hc.1 hc.2.1 dX4_serves_0 rfl (lv_at hl 0 rfl) ?_
  refine nn_get hc hw hy hiX4 rfl 0 (by decide) rfl lk15 dX4_serves_1 ?_
  refine nn_get hc hw hp hiX5 rfl 0 (by decide) rfl lk81 dX4_serves_4 ?_
  refine lv_iload_n hc.1 hc.2.1 dX4_serves_7 rfl (lv_at hl 1 rfl) ?_
  refine nn_iald hc hw hln (by omega) (by omega) dX4_serves_8 ?_
  refine lv_aload_n hc.1 hc.2.1 dX4_serves_9 rfl (lv_at hl 2 rfl) ?_
  refine nn_get hc hw ha hiX3 rfl 2 (by decide) rfl lk84 dX4_serves_10 ?_
  refine nn_icmp_ne hc dX4_serves_13 (tgt := 29) (by decide) (by omega) (by omega) (fun c1 => ?_) (fun c1 => ?_)
  · refine nn_iconst hc dX4_serves_29 ?_
    exact hrt _ _ _ dX4_serves_30 (by first | rfl | omega | (split <;> omega))
  · refine lv_aload_n hc.1 hc.2.1 dX4_serves_16 rfl (lv_at hl 0 rfl) ?_
    refine nn_get hc hw hy hiX4 rfl 1 (by decide) rfl lk9 dX4_serves_17 ?_
    refine lv_iload_n hc.1 hc.2.1 dX4_serves_20 rfl (lv_at hl 1 rfl) ?_
    refine nn_iald hc hw hrs (by omega) (by omega) dX4_serves_21 ?_
    refine nn_if_le hc dX4_serves_22 (tgt := 29) (by decide) (by omega) (fun c2 => ?_) (fun c2 => ?_)
    · refine nn_iconst hc dX4_serves_29 ?_
      exact hrt _ _ _ dX4_serves_30 (by first | rfl | omega | (split <;> omega))
    · refine nn_iconst hc dX4_serves_25 ?_
      refine lv_goto hc.1 hc.2.1 dX4_serves_26 (tgt := 30) (by decide) ?_
      exact hrt _ _ _ dX4_serves_30 (by first | rfl | omega | (split <;> omega))

set_option maxHeartbeats 4000000 in
set_option maxRecDepth 100000 in
theorem c_X4_endingAt (l : Launch) (g : gG) {n : Nat} {S : Nat → gE} {y : Nat} {pl : Nat} {nH pHi pWi pLp pBk pHp : Int} {ln br rs : Nat → Int} {a : Nat} {cL cF cG cR cZ cW cU : Int} {p : Int} (hy : S y = oO 4 [.ref pl, .ref (y + 1)]) (hp : S pl = oO 5 [.ref (pl + 1), .ref (pl + 2), .ref (pl + 3), .int (iI nH), .int (iI pHi), .int (iI pWi), .int (iI pLp), .int (iI pBk), .int (iI pHp)]) (hln : S (pl + 1) = oI g 8 ln) (hbr : S (pl + 2) = oI g 8 br) (hrs : S (y + 1) = oI g 8 rs) (ha : S a = oO 3 [.ref (a + 1), .ref (a + 2), .int (iI cL), .int (iI cF), .int (iI cG), .int (iI cR), .int (iI cZ), .int (iI cW), .int (iI cU)]) (rH : 0 ≤ nH ∧ nH ≤ 8) (rP : ∀ i : Nat, (i : Int) < nH → (20 ≤ ln i ∧ ln i ≤ 60) ∧ (10 ≤ br i ∧ br i ≤ 60)) (rR : ∀ i : Nat, (i : Int) < nH → 0 ≤ rs i ∧ rs i ≤ 1000000) (rL : 0 ≤ cL ∧ cL ≤ 60) (rp : 0 ≤ p ∧ p ≤ 1000000) (rRo : 0 ≤ cR ∧ cR ≤ 1000000) : g_Cp l yX4_endingAt wsX4_endingAt { frames := 1, cells := 0, slots := 0, locals := 22 } g [.ref y, .int (iI p), .ref a] n S (some (.int (iI (lstI (pE ln br rs cL cR p) nH.toNat)))) := by
  refine g_Cp.of (cc := cX4_endingAt) (maxL := 4) (ret := (some .int)) (by decide) rfl (Nat.le_of_ble_eq_true rfl) ?_
  intro pp ee s m below meth c Q ls hc hnm hw hl hret
  have hl : lv_has ls 4 [(0, .ref y), (1, .int (iI p)), (2, .ref a)] := hl
  have hiX4 : ∀ w ∈ u_ws RX4 TX4 2, w ∈ wsX4_endingAt := by decide +kernel
  have hiX5 : ∀ w ∈ u_ws RX5 TX5 9, w ∈ wsX4_endingAt := by decide +kernel
  have hiX3 : ∀ w ∈ u_ws RX3 TX3 9, w ∈ wsX4_endingAt := by decide +kernel
  have lk15 : Cond.fieldLink RX4 15 "RoofCourses$Layer" "plan" "LRoofCourses$Plan;" ∈ wsX4_endingAt := by decide +kernel
  have lk86 : Cond.fieldLink RX4 86 "RoofCourses$Plan" "heaps" "I" ∈ wsX4_endingAt := by decide +kernel
  have lk55 : Cond.fieldLink RX4 55 "RoofCourses$Plan" "breadth" "[I" ∈ wsX4_endingAt := by decide +kernel
  have lk58 : Cond.fieldLink RX4 58 "RoofCourses$Course" "room" "I" ∈ wsX4_endingAt := by decide +kernel
  have hrt : ∀ (pc : Nat) (ls : Array Slot) (xr : Int), decode cX4_endingAt pc = .ok (.ireturn, 1) → xr = (lstI (pE ln br rs cL cR p) nH.toNat) → W pp l ee ({ frames := 1, cells := 0, slots := 0, locals := 22 } : Room) s m ([.ref y, .int (iI p), .ref a] : List Value).toArray below meth c s.heap [] 0 0 Q (F0 m pc ls [.int (iI xr)]) := fun pc ls xr d hx => by subst hx; exact hret pc ls ⟨_, rfl, rfl, d⟩
  refine lv_aload_n hc.1 hc.2.1 dX4_endingAt_0 rfl (lv_at hl 0 rfl) ?_
  refine nn_get hc hw hy hiX4 rfl 0 (by decide) rfl lk15 dX4_endingAt_1 ?_
  refine nn_get hc hw hp hiX5 rfl 3 (by decide) rfl lk86 dX4_endingAt_4 ?_
  refine nn_iconst hc dX4_endingAt_7 ?_
  refine nn_isub hc dX4_endingAt_8 ?_
  refine lv_istore_n (lv' := [(3, .int (iI (nH - 1))), (0, .ref y), (1, .int (iI p)), (2, .ref a)]) hc.1 hc.2.1 dX4_endingAt_9 rfl hl (by decide) rfl (fun ls hl => ?_)
  have lab10 : ∀ (fu10 : Nat) (h : Int) (ls : Array Slot), (-1 ≤ h ∧ h < nH) → (lstI (pE ln br rs cL cR p) nH.toNat = lstI (pE ln br rs cL cR p) (h + 1).toNat) → (h + 1).toNat < fu10 → lv_has ls 4 [(3, .int (iI h)), (0, .ref y), (1, .int (iI p)), (2, .ref a)] → W pp l ee ({ frames := 1, cells := 0, slots := 0, locals := 22 } : Room) s m ([.ref y, .int (iI p), .ref a] : List Value).toArray below meth c s.heap [] 0 0 Q (F0 m 10 ls []) := by
    intro fu10
    induction fu10 with
    | zero =>
      intro h ls hh hv hmeas hl
      exact absurd hmeas (Nat.not_lt_zero _)
    | succ fu10 ih10 =>
      intro h ls hh hv hmeas hl
      refine lv_iload_n hc.1 hc.2.1 dX4_endingAt_10 rfl (lv_at hl 0 rfl) ?_
      refine nn_if_lt hc dX4_endingAt_11 (tgt := 49) (by decide) (by omega) (fun c1 => ?_) (fun c1 => ?_)
      · refine nn_bipush hc dX4_endingAt_49 (by decide +kernel) ?_
        exact hrt _ _ _ dX4_endingAt_51 (by rw [hv, show (h + 1).toNat = 0 by omega]; rfl)
      · have hP1 := rP h.toNat (by omega)
        have hR1 := rR h.toNat (by omega)
        refine lv_aload_n hc.1 hc.2.1 dX4_endingAt_14 rfl (lv_at hl 1 rfl) ?_
        refine lv_iload_n hc.1 hc.2.1 dX4_endingAt_15 rfl (lv_at hl 0 rfl) ?_
        refine lv_aload_n hc.1 hc.2.1 dX4_endingAt_16 rfl (lv_at hl 3 rfl) ?_
        refine nn_Vp (As := [.int (iI h), .ref a]) (st := []) hc hw hy rfl (c_X4_serves l g  hy hp hln hrs ha (by omega) (by omega) (by omega) (by omega)) (cwV 2 hc.2.2.2.2 gX4_endingAt_X4_serves rfl rfl rfl (by decide +kernel) ⟨Nat.le_of_ble_eq_true rfl, Nat.le_of_ble_eq_true rfl⟩) rfl hl.1 rfl (Nat.le_of_ble_eq_true rfl) ⟨Nat.le_of_ble_eq_true rfl, Nat.le_of_ble_eq_true rfl⟩ dX4_endingAt_17 ?_
        refine W.eq (g2 := F0 m 20 ls [.int (iI (if ln h.toNat = cL ∧ 0 < rs h.toNat then 1 else 0))]) rfl ?_
        refine nn_if_eq hc dX4_endingAt_20 (tgt := 43) (by decide) (by omega) (fun c2 => ?_) (fun c2 => ?_)
        · refine nn_iinc (lv' := [(3, .int (iI (h + (-1)))), (0, .ref y), (1, .int (iI p)), (2, .ref a)]) hc dX4_endingAt_43 hl (k0 := 0) rfl (by decide) rfl (fun ls hl => ?_)
          refine lv_goto hc.1 hc.2.1 dX4_endingAt_46 (tgt := 10) (by decide) ?_
          exact ih10 (h + (-1)) _ (by omega) (by rw [hv, lstI_miss (by omega) (b_no pE_iff (by omega)), show h + -1 + 1 = h by omega]) (by omega) (lv_sub hl [0, 1, 2, 3] rfl)
        · refine lv_iload_n hc.1 hc.2.1 dX4_endingAt_23 rfl (lv_at hl 2 rfl) ?_
          refine lv_aload_n hc.1 hc.2.1 dX4_endingAt_24 rfl (lv_at hl 1 rfl) ?_
          refine nn_get hc hw hy hiX4 rfl 0 (by decide) rfl lk15 dX4_endingAt_25 ?_
          refine nn_get hc hw hp hiX5 rfl 1 (by decide) rfl lk55 dX4_endingAt_28 ?_
          refine lv_iload_n hc.1 hc.2.1 dX4_endingAt_31 rfl (lv_at hl 0 rfl) ?_
          refine nn_iald hc hw hbr (by omega) (by omega) dX4_endingAt_32 ?_
          refine nn_iadd hc dX4_endingAt_33 ?_
          refine lv_aload_n hc.1 hc.2.1 dX4_endingAt_34 rfl (lv_at hl 3 rfl) ?_
          refine nn_get hc hw ha hiX3 rfl 5 (by decide) rfl lk58 dX4_endingAt_35 ?_
          refine nn_icmp_lt hc dX4_endingAt_38 (tgt := 43) (by decide) (by omega) (by omega) (fun c3 => ?_) (fun c3 => ?_)
          · refine nn_iinc (lv' := [(3, .int (iI (h + (-1)))), (0, .ref y), (1, .int (iI p)), (2, .ref a)]) hc dX4_endingAt_43 hl (k0 := 0) rfl (by decide) rfl (fun ls hl => ?_)
            refine lv_goto hc.1 hc.2.1 dX4_endingAt_46 (tgt := 10) (by decide) ?_
            exact ih10 (h + (-1)) _ (by omega) (by rw [hv, lstI_miss (by omega) (b_no pE_iff (by omega)), show h + -1 + 1 = h by omega]) (by omega) (lv_sub hl [0, 1, 2, 3] rfl)
          · refine lv_iload_n hc.1 hc.2.1 dX4_endingAt_41 rfl (lv_at hl 0 rfl) ?_
            exact hrt _ _ _ dX4_endingAt_42 (by rw [hv, lstI_hit (by omega) (pE_iff.mpr (by omega))])
  exact lab10 _ (nH - 1) _ (by omega) (by rw [show nH - 1 + 1 = nH by omega]) (Nat.lt_succ_self _) (lv_sub hl [0, 1, 2, 3] rfl)

set_option maxHeartbeats 4000000 in
set_option maxRecDepth 100000 in
theorem c_X4_broadestFor (l : Launch) (g : gG) {n : Nat} {S : Nat → gE} {y : Nat} {pl : Nat} {nH pHi pWi pLp pBk pHp : Int} {ln br rs : Nat → Int} {a : Nat} {cL cF cG cR cZ cW cU : Int} (hy : S y = oO 4 [.ref pl, .ref (y + 1)]) (hp : S pl = oO 5 [.ref (pl + 1), .ref (pl + 2), .ref (pl + 3), .int (iI nH), .int (iI pHi), .int (iI pWi), .int (iI pLp), .int (iI pBk), .int (iI pHp)]) (hln : S (pl + 1) = oI g 8 ln) (hrs : S (y + 1) = oI g 8 rs) (ha : S a = oO 3 [.ref (a + 1), .ref (a + 2), .int (iI cL), .int (iI cF), .int (iI cG), .int (iI cR), .int (iI cZ), .int (iI cW), .int (iI cU)]) (rH : 0 ≤ nH ∧ nH ≤ 8) (rP : ∀ i : Nat, (i : Int) < nH → (20 ≤ ln i ∧ ln i ≤ 60) ∧ (10 ≤ br i ∧ br i ≤ 60)) (rR : ∀ i : Nat, (i : Int) < nH → 0 ≤ rs i ∧ rs i ≤ 1000000) (rL : 0 ≤ cL ∧ cL ≤ 60) : g_Cp l yX4_broadestFor wsX4_broadestFor { frames := 1, cells := 0, slots := 0, locals := 22 } g [.ref y, .ref a] n S (some (.int (iI (fstI (srv ln rs cL) nH.toNat)))) := by
  refine g_Cp.of (cc := cX4_broadestFor) (maxL := 3) (ret := (some .int)) (by decide) rfl (Nat.le_of_ble_eq_true rfl) ?_
  intro pp ee s m below meth c Q ls hc hnm hw hl hret
  have hl : lv_has ls 3 [(0, .ref y), (1, .ref a)] := hl
  have hiX4 : ∀ w ∈ u_ws RX4 TX4 2, w ∈ wsX4_broadestFor := by decide +kernel
  have hiX5 : ∀ w ∈ u_ws RX5 TX5 9, w ∈ wsX4_broadestFor := by decide +kernel
  have lk15 : Cond.fieldLink RX4 15 "RoofCourses$Layer" "plan" "LRoofCourses$Plan;" ∈ wsX4_broadestFor := by decide +kernel
  have lk86 : Cond.fieldLink RX4 86 "RoofCourses$Plan" "heaps" "I" ∈ wsX4_broadestFor := by decide +kernel
  have hrt : ∀ (pc : Nat) (ls : Array Slot) (xr : Int), decode cX4_broadestFor pc = .ok (.ireturn, 1) → xr = (fstI (srv ln rs cL) nH.toNat) → W pp l ee ({ frames := 1, cells := 0, slots := 0, locals := 22 } : Room) s m ([.ref y, .ref a] : List Value).toArray below meth c s.heap [] 0 0 Q (F0 m pc ls [.int (iI xr)]) := fun pc ls xr d hx => by subst hx; exact hret pc ls ⟨_, rfl, rfl, d⟩
  refine nn_iconst hc dX4_broadestFor_0 ?_
  refine lv_istore_n (lv' := [(2, .int (iI 0)), (0, .ref y), (1, .ref a)]) hc.1 hc.2.1 dX4_broadestFor_1 rfl hl (by decide) rfl (fun ls hl => ?_)
  have lab2 : ∀ (fu2 : Nat) (h : Int) (ls : Array Slot), (0 ≤ h ∧ h ≤ nH) → (∀ i : Nat, (i : Int) < h → srv ln rs cL i = false) → (nH - h).toNat < fu2 → lv_has ls 3 [(2, .int (iI h)), (0, .ref y), (1, .ref a)] → W pp l ee ({ frames := 1, cells := 0, slots := 0, locals := 22 } : Room) s m ([.ref y, .ref a] : List Value).toArray below meth c s.heap [] 0 0 Q (F0 m 2 ls []) := by
    intro fu2
    induction fu2 with
    | zero =>
      intro h ls hh hv hmeas hl
      exact absurd hmeas (Nat.not_lt_zero _)
    | succ fu2 ih2 =>
      intro h ls hh hv hmeas hl
      refine lv_iload_n hc.1 hc.2.1 dX4_broadestFor_2 rfl (lv_at hl 0 rfl) ?_
      refine lv_aload_n hc.1 hc.2.1 dX4_broadestFor_3 rfl (lv_at hl 1 rfl) ?_
      refine nn_get hc hw hy hiX4 rfl 0 (by decide) rfl lk15 dX4_broadestFor_4 ?_
      refine nn_get hc hw hp hiX5 rfl 3 (by decide) rfl lk86 dX4_broadestFor_7 ?_
      refine nn_icmp_ge hc dX4_broadestFor_10 (tgt := 30) (by decide) (by omega) (by omega) (fun c1 => ?_) (fun c1 => ?_)
      · refine nn_bipush hc dX4_broadestFor_30 (by decide +kernel) ?_
        exact hrt _ _ _ dX4_broadestFor_32 (by rw [fstI_none.mpr (fun i hi => hv i (by omega))])
      · have hP1 := rP h.toNat (by omega)
        have hR1 := rR h.toNat (by omega)
        refine lv_aload_n hc.1 hc.2.1 dX4_broadestFor_13 rfl (lv_at hl 1 rfl) ?_
        refine lv_iload_n hc.1 hc.2.1 dX4_broadestFor_14 rfl (lv_at hl 0 rfl) ?_
        refine lv_aload_n hc.1 hc.2.1 dX4_broadestFor_15 rfl (lv_at hl 2 rfl) ?_
        refine nn_Vp (As := [.int (iI h), .ref a]) (st := []) hc hw hy rfl (c_X4_serves l g  hy hp hln hrs ha (by omega) (by omega) (by omega) (by omega)) (cwV 2 hc.2.2.2.2 gX4_broadestFor_X4_serves rfl rfl rfl (by decide +kernel) ⟨Nat.le_of_ble_eq_true rfl, Nat.le_of_ble_eq_true rfl⟩) rfl hl.1 rfl (Nat.le_of_ble_eq_true rfl) ⟨Nat.le_of_ble_eq_true rfl, Nat.le_of_ble_eq_true rfl⟩ dX4_broadestFor_16 ?_
        refine W.eq (g2 := F0 m 19 ls [.int (iI (if ln h.toNat = cL ∧ 0 < rs h.toNat then 1 else 0))]) rfl ?_
        refine nn_if_eq hc dX4_broadestFor_19 (tgt := 24) (by decide) (by omega) (fun c2 => ?_) (fun c2 => ?_)
        · refine nn_iinc (lv' := [(2, .int (iI (h + 1))), (0, .ref y), (1, .ref a)]) hc dX4_broadestFor_24 hl (k0 := 0) rfl (by decide) rfl (fun ls hl => ?_)
          refine lv_goto hc.1 hc.2.1 dX4_broadestFor_27 (tgt := 2) (by decide) ?_
          exact ih2 (h + 1) _ (by omega) (fun i hi => by rcases Nat.lt_or_ge i h.toNat with q | q; exact hv i (by omega); have e1 : i = h.toNat := (by omega); subst e1; exact b_no srv_iff (by omega)) (by omega) (lv_sub hl [0, 1, 2] rfl)
        · refine lv_iload_n hc.1 hc.2.1 dX4_broadestFor_22 rfl (lv_at hl 0 rfl) ?_
          exact hrt _ _ _ dX4_broadestFor_23 (by rw [fstI_some (h := h.toNat) (by omega) (srv_iff.mpr (by omega)) (fun i hi => hv i (by omega))]; omega)
  exact lab2 _ 0 _ (by omega) (fun i hi => absurd hi (by omega)) (Nat.lt_succ_self _) (lv_sub hl [0, 1, 2] rfl)

set_option maxHeartbeats 4000000 in
set_option maxRecDepth 100000 in
theorem c_X4_brokenAt (l : Launch) (g : gG) {n : Nat} {S : Nat → gE} {y : Nat} {pl : Nat} {nH pHi pWi pLp pBk pHp : Int} {ln br rs : Nat → Int} {a : Nat} {cL cF cG cR cZ cW cU : Int} {bl : Nat} {dL dF dG dR dZ dW dU : Int} {ed : Nat → Int} {p : Int} (hy : S y = oO 4 [.ref pl, .ref (y + 1)]) (hp : S pl = oO 5 [.ref (pl + 1), .ref (pl + 2), .ref (pl + 3), .int (iI nH), .int (iI pHi), .int (iI pWi), .int (iI pLp), .int (iI pBk), .int (iI pHp)]) (hln : S (pl + 1) = oI g 8 ln) (hbr : S (pl + 2) = oI g 8 br) (hrs : S (y + 1) = oI g 8 rs) (ha : S a = oO 3 [.ref (a + 1), .ref (a + 2), .int (iI cL), .int (iI cF), .int (iI cG), .int (iI cR), .int (iI cZ), .int (iI cW), .int (iI cU)]) (hb : S bl = oO 3 [.ref (bl + 1), .ref (bl + 2), .int (iI dL), .int (iI dF), .int (iI dG), .int (iI dR), .int (iI dZ), .int (iI dW), .int (iI dU)]) (hed : S (bl + 2) = oI g 60 ed) (rH : 0 ≤ nH ∧ nH ≤ 8) (rP : ∀ i : Nat, (i : Int) < nH → (20 ≤ ln i ∧ ln i ≤ 60) ∧ (10 ≤ br i ∧ br i ≤ 60)) (rR : ∀ i : Nat, (i : Int) < nH → 0 ≤ rs i ∧ rs i ≤ 1000000) (rL : 0 ≤ cL ∧ cL ≤ 60) (rZb : 0 ≤ dZ ∧ dZ ≤ 60) (red : ∀ k : Nat, (k : Int) < dZ - 1 → -1000000 ≤ ed k ∧ ed k ≤ 1000000) (rbk : 0 ≤ pBk ∧ pBk ≤ 1000000) (rp : 0 ≤ p ∧ p ≤ 1000000) : g_Cp l yX4_brokenAt wsX4_brokenAt { frames := 3, cells := 0, slots := 0, locals := 56 } g [.ref y, .int (iI p), .ref a, .ref bl] n S (some (.int (iI (fstI (pB ln br rs cL ed pBk (dZ - 1).toNat p) nH.toNat)))) := by
  refine g_Cp.of (cc := cX4_brokenAt) (maxL := 5) (ret := (some .int)) (by decide) rfl (Nat.le_of_ble_eq_true rfl) ?_
  intro pp ee s m below meth c Q ls hc hnm hw hl hret
  have hl : lv_has ls 5 [(0, .ref y), (1, .int (iI p)), (2, .ref a), (3, .ref bl)] := hl
  have hiX4 : ∀ w ∈ u_ws RX4 TX4 2, w ∈ wsX4_brokenAt := by decide +kernel
  have hiX5 : ∀ w ∈ u_ws RX5 TX5 9, w ∈ wsX4_brokenAt := by decide +kernel
  have lk15 : Cond.fieldLink RX4 15 "RoofCourses$Layer" "plan" "LRoofCourses$Plan;" ∈ wsX4_brokenAt := by decide +kernel
  have lk86 : Cond.fieldLink RX4 86 "RoofCourses$Plan" "heaps" "I" ∈ wsX4_brokenAt := by decide +kernel
  have lk55 : Cond.fieldLink RX4 55 "RoofCourses$Plan" "breadth" "[I" ∈ wsX4_brokenAt := by decide +kernel
  have lk93 : Cond.fieldLink RX4 93 "RoofCourses$Plan" "breaking" "I" ∈ wsX4_brokenAt := by decide +kernel
  have hrt : ∀ (pc : Nat) (ls : Array Slot) (xr : Int), decode cX4_brokenAt pc = .ok (.ireturn, 1) → xr = (fstI (pB ln br rs cL ed pBk (dZ - 1).toNat p) nH.toNat) → W pp l ee ({ frames := 3, cells := 0, slots := 0, locals := 56 } : Room) s m ([.ref y, .int (iI p), .ref a, .ref bl] : List Value).toArray below meth c s.heap [] 0 0 Q (F0 m pc ls [.int (iI xr)]) := fun pc ls xr d hx => by subst hx; exact hret pc ls ⟨_, rfl, rfl, d⟩
  refine nn_iconst hc dX4_brokenAt_0 ?_
  refine lv_istore (lv' := [(4, .int (iI 0)), (0, .ref y), (1, .int (iI p)), (2, .ref a), (3, .ref bl)]) hc.1 hc.2.1 dX4_brokenAt_1 hl (by decide) rfl (fun ls hl => ?_)
  have lab3 : ∀ (fu3 : Nat) (h : Int) (ls : Array Slot), (0 ≤ h ∧ h ≤ nH) → (∀ i : Nat, (i : Int) < h → pB ln br rs cL ed pBk (dZ - 1).toNat p i = false) → (nH - h).toNat < fu3 → lv_has ls 5 [(4, .int (iI h)), (0, .ref y), (1, .int (iI p)), (2, .ref a), (3, .ref bl)] → W pp l ee ({ frames := 3, cells := 0, slots := 0, locals := 56 } : Room) s m ([.ref y, .int (iI p), .ref a, .ref bl] : List Value).toArray below meth c s.heap [] 0 0 Q (F0 m 3 ls []) := by
    intro fu3
    induction fu3 with
    | zero =>
      intro h ls hh hv hmeas hl
      exact absurd hmeas (Nat.not_lt_zero _)
    | succ fu3 ih3 =>
      intro h ls hh hv hmeas hl
      refine lv_iload hc.1 hc.2.1 dX4_brokenAt_3 (lv_at hl 0 rfl) ?_
      refine lv_aload_n hc.1 hc.2.1 dX4_brokenAt_5 rfl (lv_at hl 1 rfl) ?_
      refine nn_get hc hw hy hiX4 rfl 0 (by decide) rfl lk15 dX4_brokenAt_6 ?_
      refine nn_get hc hw hp hiX5 rfl 3 (by decide) rfl lk86 dX4_brokenAt_9 ?_
      refine nn_icmp_ge hc dX4_brokenAt_12 (tgt := 60) (by decide) (by omega) (by omega) (fun c1 => ?_) (fun c1 => ?_)
      · refine nn_bipush hc dX4_brokenAt_60 (by decide +kernel) ?_
        exact hrt _ _ _ dX4_brokenAt_62 (by rw [fstI_none.mpr (fun i hi => hv i (by omega))])
      · have hP1 := rP h.toNat (by omega)
        have hR1 := rR h.toNat (by omega)
        refine lv_aload_n hc.1 hc.2.1 dX4_brokenAt_15 rfl (lv_at hl 1 rfl) ?_
        refine lv_iload hc.1 hc.2.1 dX4_brokenAt_16 (lv_at hl 0 rfl) ?_
        refine lv_aload_n hc.1 hc.2.1 dX4_brokenAt_18 rfl (lv_at hl 3 rfl) ?_
        refine nn_Vp (As := [.int (iI h), .ref a]) (st := []) hc hw hy rfl (c_X4_serves l g  hy hp hln hrs ha (by omega) (by omega) (by omega) (by omega)) (cwV 2 hc.2.2.2.2 gX4_brokenAt_X4_serves rfl rfl rfl (by decide +kernel) ⟨Nat.le_of_ble_eq_true rfl, Nat.le_of_ble_eq_true rfl⟩) rfl hl.1 rfl (Nat.le_of_ble_eq_true rfl) ⟨Nat.le_of_ble_eq_true rfl, Nat.le_of_ble_eq_true rfl⟩ dX4_brokenAt_19 ?_
        refine W.eq (g2 := F0 m 22 ls [.int (iI (if ln h.toNat = cL ∧ 0 < rs h.toNat then 1 else 0))]) rfl ?_
        refine nn_if_eq hc dX4_brokenAt_22 (tgt := 54) (by decide) (by omega) (fun c2 => ?_) (fun c2 => ?_)
        · have hq2 : True := trivial
          refine nn_iinc (lv' := [(4, .int (iI (h + 1))), (0, .ref y), (1, .int (iI p)), (2, .ref a), (3, .ref bl)]) hc dX4_brokenAt_54 hl (k0 := 0) rfl (by decide) rfl (fun ls hl => ?_)
          refine lv_goto hc.1 hc.2.1 dX4_brokenAt_57 (tgt := 3) (by decide) ?_
          exact ih3 (h + 1) _ (by omega) (fun i hi => by rcases Nat.lt_or_ge i h.toNat with q | q; exact hv i (by omega); have e1 : i = h.toNat := (by omega); subst e1; exact b_no pB_iff (by first | omega | (intro z; rw [if_pos z.2] at hq2; omega))) (by omega) (lv_sub hl [0, 1, 2, 3, 4] rfl)
        · refine lv_aload_n hc.1 hc.2.1 dX4_brokenAt_25 rfl (lv_at hl 4 rfl) ?_
          refine lv_iload_n hc.1 hc.2.1 dX4_brokenAt_26 rfl (lv_at hl 2 rfl) ?_
          refine lv_aload_n hc.1 hc.2.1 dX4_brokenAt_27 rfl (lv_at hl 1 rfl) ?_
          refine nn_get hc hw hy hiX4 rfl 0 (by decide) rfl lk15 dX4_brokenAt_28 ?_
          refine nn_get hc hw hp hiX5 rfl 1 (by decide) rfl lk55 dX4_brokenAt_31 ?_
          refine lv_iload hc.1 hc.2.1 dX4_brokenAt_34 (lv_at hl 0 rfl) ?_
          refine nn_iald hc hw hbr (by omega) (by omega) dX4_brokenAt_36 ?_
          refine nn_iadd hc dX4_brokenAt_37 ?_
          refine lv_aload_n hc.1 hc.2.1 dX4_brokenAt_38 rfl (lv_at hl 1 rfl) ?_
          refine nn_get hc hw hy hiX4 rfl 0 (by decide) rfl lk15 dX4_brokenAt_39 ?_
          refine nn_get hc hw hp hiX5 rfl 7 (by decide) rfl lk93 dX4_brokenAt_42 ?_
          refine nn_Vp (As := [.int (iI (p + (br h.toNat))), .int (iI pBk)]) (st := []) hc hw hb rfl (c_X3_isBrokenAt l g  hb hed (by omega) (by omega) (by omega) (fun k hk => by have := red k hk; omega)) (cwV 2 hc.2.2.2.2 gX4_brokenAt_X3_isBrokenAt rfl rfl rfl (by decide +kernel) ⟨Nat.le_of_ble_eq_true rfl, Nat.le_of_ble_eq_true rfl⟩) rfl hl.1 rfl (Nat.le_of_ble_eq_true rfl) ⟨Nat.le_of_ble_eq_true rfl, Nat.le_of_ble_eq_true rfl⟩ dX4_brokenAt_45 ?_
          refine W.eq (g2 := F0 m 48 ls [.int (iI (if brk ed pBk (p + (br h.toNat)) (dZ - 1).toNat = true then 1 else 0))]) rfl ?_
          refine nn_if_eq hc dX4_brokenAt_48 (tgt := 54) (by decide) (by omega) (fun c3 => ?_) (fun c3 => ?_)
          · have hq2 := c3
            refine nn_iinc (lv' := [(4, .int (iI (h + 1))), (0, .ref y), (1, .int (iI p)), (2, .ref a), (3, .ref bl)]) hc dX4_brokenAt_54 hl (k0 := 0) rfl (by decide) rfl (fun ls hl => ?_)
            refine lv_goto hc.1 hc.2.1 dX4_brokenAt_57 (tgt := 3) (by decide) ?_
            exact ih3 (h + 1) _ (by omega) (fun i hi => by rcases Nat.lt_or_ge i h.toNat with q | q; exact hv i (by omega); have e1 : i = h.toNat := (by omega); subst e1; exact b_no pB_iff (by first | omega | (intro z; rw [if_pos z.2] at hq2; omega))) (by omega) (lv_sub hl [0, 1, 2, 3, 4] rfl)
          · have hq3 := c3
            have hq4 : brk ed pBk (p + br h.toNat) (dZ - 1).toNat = true := Classical.byContradiction (fun z => hq3 (if_neg z))
            refine lv_iload hc.1 hc.2.1 dX4_brokenAt_51 (lv_at hl 0 rfl) ?_
            exact hrt _ _ _ dX4_brokenAt_53 (by rw [fstI_some (h := h.toNat) (by omega) (pB_iff.mpr ⟨by omega, hq4⟩) (fun i hi => hv i (by omega))]; omega)
  exact lab3 _ 0 _ (by omega) (fun i hi => absurd hi (by omega)) (Nat.lt_succ_self _) (lv_sub hl [0, 1, 2, 3, 4] rfl)

set_option maxHeartbeats 4000000 in
set_option maxRecDepth 100000 in
theorem c_X4_cutAt (l : Launch) (g : gG) {n : Nat} {S : Nat → gE} {y : Nat} {pl : Nat} {nH pHi pWi pLp pBk pHp : Int} {bl : Nat} {dL dF dG dR dZ dW dU : Int} {ed : Nat → Int} {p b : Int} (hy : S y = oO 4 [.ref pl, .ref (y + 1)]) (hp : S pl = oO 5 [.ref (pl + 1), .ref (pl + 2), .ref (pl + 3), .int (iI nH), .int (iI pHi), .int (iI pWi), .int (iI pLp), .int (iI pBk), .int (iI pHp)]) (hb : S bl = oO 3 [.ref (bl + 1), .ref (bl + 2), .int (iI dL), .int (iI dF), .int (iI dG), .int (iI dR), .int (iI dZ), .int (iI dW), .int (iI dU)]) (hed : S (bl + 2) = oI g 60 ed) (rZb : 0 ≤ dZ ∧ dZ ≤ 60) (red : ∀ k : Nat, (k : Int) < dZ - 1 → -1000000 ≤ ed k ∧ ed k ≤ 1000000) (rbk : 0 ≤ pBk ∧ pBk ≤ 1000000) (rp : 0 ≤ p ∧ p ≤ 1000000) (rb : 0 ≤ b ∧ b ≤ 1000000) : g_Cp l yX4_cutAt wsX4_cutAt { frames := 3, cells := 0, slots := 0, locals := 56 } g [.ref y, .int (iI p), .int (iI b), .ref bl] n S (some (.int (iI (cutI (fun v => brk ed pBk (p + v) (dZ - 1).toNat) (b - 1).toNat)))) := by
  refine g_Cp.of (cc := cX4_cutAt) (maxL := 5) (ret := (some .int)) (by decide) rfl (Nat.le_of_ble_eq_true rfl) ?_
  intro pp ee s m below meth c Q ls hc hnm hw hl hret
  have hl : lv_has ls 5 [(0, .ref y), (1, .int (iI p)), (2, .int (iI b)), (3, .ref bl)] := hl
  have hiX4 : ∀ w ∈ u_ws RX4 TX4 2, w ∈ wsX4_cutAt := by decide +kernel
  have hiX5 : ∀ w ∈ u_ws RX5 TX5 9, w ∈ wsX4_cutAt := by decide +kernel
  have lk15 : Cond.fieldLink RX4 15 "RoofCourses$Layer" "plan" "LRoofCourses$Plan;" ∈ wsX4_cutAt := by decide +kernel
  have lk93 : Cond.fieldLink RX4 93 "RoofCourses$Plan" "breaking" "I" ∈ wsX4_cutAt := by decide +kernel
  have hrt : ∀ (pc : Nat) (ls : Array Slot) (xr : Int), decode cX4_cutAt pc = .ok (.ireturn, 1) → xr = (cutI (fun v => brk ed pBk (p + v) (dZ - 1).toNat) (b - 1).toNat) → W pp l ee ({ frames := 3, cells := 0, slots := 0, locals := 56 } : Room) s m ([.ref y, .int (iI p), .int (iI b), .ref bl] : List Value).toArray below meth c s.heap [] 0 0 Q (F0 m pc ls [.int (iI xr)]) := fun pc ls xr d hx => by subst hx; exact hret pc ls ⟨_, rfl, rfl, d⟩
  refine lv_iload_n hc.1 hc.2.1 dX4_cutAt_0 rfl (lv_at hl 2 rfl) ?_
  refine nn_iconst hc dX4_cutAt_1 ?_
  refine nn_isub hc dX4_cutAt_2 ?_
  refine lv_istore (lv' := [(4, .int (iI (b - 1))), (0, .ref y), (1, .int (iI p)), (2, .int (iI b)), (3, .ref bl)]) hc.1 hc.2.1 dX4_cutAt_3 hl (by decide) rfl (fun ls hl => ?_)
  have lab5 : ∀ (fu5 : Nat) (h : Int) (ls : Array Slot), (-1 ≤ h ∧ h ≤ b) → (cutI (fun v => brk ed pBk (p + v) (dZ - 1).toNat) (b - 1).toNat = cutI (fun v => brk ed pBk (p + v) (dZ - 1).toNat) h.toNat) → (h + 1).toNat < fu5 → lv_has ls 5 [(4, .int (iI h)), (0, .ref y), (1, .int (iI p)), (2, .int (iI b)), (3, .ref bl)] → W pp l ee ({ frames := 3, cells := 0, slots := 0, locals := 56 } : Room) s m ([.ref y, .int (iI p), .int (iI b), .ref bl] : List Value).toArray below meth c s.heap [] 0 0 Q (F0 m 5 ls []) := by
    intro fu5
    induction fu5 with
    | zero =>
      intro h ls hh hv hmeas hl
      exact absurd hmeas (Nat.not_lt_zero _)
    | succ fu5 ih5 =>
      intro h ls hh hv hmeas hl
      refine lv_iload hc.1 hc.2.1 dX4_cutAt_5 (lv_at hl 0 rfl) ?_
      refine nn_iconst hc dX4_cutAt_7 ?_
      refine nn_icmp_lt hc dX4_cutAt_8 (tgt := 38) (by decide) (by omega) (by decide) (fun c1 => ?_) (fun c1 => ?_)
      · refine nn_bipush hc dX4_cutAt_38 (by decide +kernel) ?_
        exact hrt _ _ _ dX4_cutAt_40 (by rw [hv, show h.toNat = 0 by omega]; rfl)
      · refine lv_aload_n hc.1 hc.2.1 dX4_cutAt_11 rfl (lv_at hl 4 rfl) ?_
        refine lv_iload_n hc.1 hc.2.1 dX4_cutAt_12 rfl (lv_at hl 2 rfl) ?_
        refine lv_iload hc.1 hc.2.1 dX4_cutAt_13 (lv_at hl 0 rfl) ?_
        refine nn_iadd hc dX4_cutAt_15 ?_
        refine lv_aload_n hc.1 hc.2.1 dX4_cutAt_16 rfl (lv_at hl 1 rfl) ?_
        refine nn_get hc hw hy hiX4 rfl 0 (by decide) rfl lk15 dX4_cutAt_17 ?_
        refine nn_get hc hw hp hiX5 rfl 7 (by decide) rfl lk93 dX4_cutAt_20 ?_
        refine nn_Vp (As := [.int (iI (p + h)), .int (iI pBk)]) (st := []) hc hw hb rfl (c_X3_isBrokenAt l g  hb hed (by omega) (by omega) (by omega) (fun k hk => by have := red k hk; omega)) (cwV 2 hc.2.2.2.2 gX4_cutAt_X3_isBrokenAt rfl rfl rfl (by decide +kernel) ⟨Nat.le_of_ble_eq_true rfl, Nat.le_of_ble_eq_true rfl⟩) rfl hl.1 rfl (Nat.le_of_ble_eq_true rfl) ⟨Nat.le_of_ble_eq_true rfl, Nat.le_of_ble_eq_true rfl⟩ dX4_cutAt_23 ?_
        refine W.eq (g2 := F0 m 26 ls [.int (iI (if brk ed pBk (p + h) (dZ - 1).toNat = true then 1 else 0))]) rfl ?_
        refine nn_if_eq hc dX4_cutAt_26 (tgt := 32) (by decide) (by omega) (fun c2 => ?_) (fun c2 => ?_)
        · have hq2 := c2
          refine nn_iinc (lv' := [(4, .int (iI (h + (-1)))), (0, .ref y), (1, .int (iI p)), (2, .int (iI b)), (3, .ref bl)]) hc dX4_cutAt_32 hl (k0 := 0) rfl (by decide) rfl (fun ls hl => ?_)
          refine lv_goto hc.1 hc.2.1 dX4_cutAt_35 (tgt := 5) (by decide) ?_
          exact ih5 (h + (-1)) _ (by omega) (by rw [hv, cutI_miss (by omega) (Bool.eq_false_iff.mpr (fun z => by rw [show ((h.toNat : Nat) : Int) = h by omega] at z; rw [if_pos z] at hq2; omega)), show h - 1 = h + -1 by omega]) (by omega) (lv_sub hl [0, 1, 2, 3, 4] rfl)
        · have hq3 := c2
          have hq4 : brk ed pBk (p + h) (dZ - 1).toNat = true := Classical.byContradiction (fun z => hq3 (if_neg z))
          refine lv_iload hc.1 hc.2.1 dX4_cutAt_29 (lv_at hl 0 rfl) ?_
          exact hrt _ _ _ dX4_cutAt_31 (by rw [hv, cutI_hit (q := fun v => brk ed pBk (p + v) (dZ - 1).toNat) (by omega) (show brk ed pBk (p + (h.toNat : Int)) (dZ - 1).toNat = true by rw [show ((h.toNat : Nat) : Int) = h by omega]; exact hq4)])
  exact lab5 _ (b - 1) _ (by omega) (rfl) (Nat.lt_succ_self _) (lv_sub hl [0, 1, 2, 3, 4] rfl)
end
section
set_option maxHeartbeats 4000000 in
set_option maxRecDepth 100000 in
theorem c_X4_putWithJoint_no (l : Launch) (g : gG) {n : Nat} {S : Nat → gE} {y : Nat} {pl : Nat} {nH pHi pWi pLp pBk pHp : Int} {ln br rs : Nat → Int} {a : Nat} {cL cF cG cR cZ cW cU : Int} {bl : Nat} {dL dF dG dR dZ dW dU : Int} {ed : Nat → Int} {p : Int} (hy : S y = oO 4 [.ref pl, .ref (y + 1)]) (hp : S pl = oO 5 [.ref (pl + 1), .ref (pl + 2), .ref (pl + 3), .int (iI nH), .int (iI pHi), .int (iI pWi), .int (iI pLp), .int (iI pBk), .int (iI pHp)]) (hln : S (pl + 1) = oI g 8 ln) (hbr : S (pl + 2) = oI g 8 br) (hrs : S (y + 1) = oI g 8 rs) (ha : S a = oO 3 [.ref (a + 1), .ref (a + 2), .int (iI cL), .int (iI cF), .int (iI cG), .int (iI cR), .int (iI cZ), .int (iI cW), .int (iI cU)]) (hb : S bl = oO 3 [.ref (bl + 1), .ref (bl + 2), .int (iI dL), .int (iI dF), .int (iI dG), .int (iI dR), .int (iI dZ), .int (iI dW), .int (iI dU)]) (hed : S (bl + 2) = oI g 60 ed) (rH : 0 ≤ nH ∧ nH ≤ 8) (rP : ∀ i : Nat, (i : Int) < nH → (20 ≤ ln i ∧ ln i ≤ 60) ∧ (10 ≤ br i ∧ br i ≤ 60)) (rR : ∀ i : Nat, (i : Int) < nH → 0 ≤ rs i ∧ rs i ≤ 1000000) (rL : 0 ≤ cL ∧ cL ≤ 60) (rZb : 0 ≤ dZ ∧ dZ ≤ 60) (red : ∀ k : Nat, (k : Int) < dZ - 1 → -1000000 ≤ ed k ∧ ed k ≤ 1000000) (rbk : 0 ≤ pBk ∧ pBk ≤ 1000000) (rp : 0 ≤ p ∧ p ≤ 1000000) (hpj : pj nH.toNat ln br rs cL ed pBk (dZ - 1).toNat p = none) : g_Cp l yX4_putWithJoint wsX4_putWithJoint { frames := 4, cells := 0, slots := 0, locals := 80 } g [.ref y, .ref a, .int (iI p), .ref bl] n S (some (.int (iI 0))) := by
  refine g_Cp.of (cc := cX4_putWithJoint) (maxL := 7) (ret := (some .boolean)) (by decide) rfl (Nat.le_of_ble_eq_true rfl) ?_
  intro pp ee s m below meth c Q ls hc hnm hw hl hret
  have hl : lv_has ls 7 [(0, .ref y), (1, .ref a), (2, .int (iI p)), (3, .ref bl)] := hl
  have hiX4 : ∀ w ∈ u_ws RX4 TX4 2, w ∈ wsX4_putWithJoint := by decide +kernel
  have hiX5 : ∀ w ∈ u_ws RX5 TX5 9, w ∈ wsX4_putWithJoint := by decide +kernel
  have lk15 : Cond.fieldLink RX4 15 "RoofCourses$Layer" "plan" "LRoofCourses$Plan;" ∈ wsX4_putWithJoint := by decide +kernel
  have lk55 : Cond.fieldLink RX4 55 "RoofCourses$Plan" "breadth" "[I" ∈ wsX4_putWithJoint := by decide +kernel
  have hrt : ∀ (pc : Nat) (ls : Array Slot) (xr : Int), decode cX4_putWithJoint pc = .ok (.ireturn, 1) → xr = (0) → W pp l ee ({ frames := 4, cells := 0, slots := 0, locals := 80 } : Room) s m ([.ref y, .ref a, .int (iI p), .ref bl] : List Value).toArray below meth c s.heap [] 0 0 Q (F0 m pc ls [.int (iI xr)]) := fun pc ls xr d hx => by subst hx; exact hret pc ls ⟨_, rfl, rfl, d⟩
  refine lv_aload_n hc.1 hc.2.1 dX4_putWithJoint_0 rfl (lv_at hl 0 rfl) ?_
  refine lv_iload_n hc.1 hc.2.1 dX4_putWithJoint_1 rfl (lv_at hl 2 rfl) ?_
  refine lv_aload_n hc.1 hc.2.1 dX4_putWithJoint_2 rfl (lv_at hl 1 rfl) ?_
  refine lv_aload_n hc.1 hc.2.1 dX4_putWithJoint_3 rfl (lv_at hl 3 rfl) ?_
  refine nn_Vp (As := [.int (iI p), .ref a, .ref bl]) (st := []) hc hw hy rfl (c_X4_brokenAt l g  hy hp hln hbr hrs ha hb hed (by omega) (by omega) (by omega) (by omega) (by omega) (by omega) (by omega) (by omega)) (cwV 3 hc.2.2.2.2 gX4_putWithJoint_X4_brokenAt rfl rfl rfl (by decide +kernel) ⟨Nat.le_of_ble_eq_true rfl, Nat.le_of_ble_eq_true rfl⟩) rfl hl.1 rfl (Nat.le_of_ble_eq_true rfl) ⟨Nat.le_of_ble_eq_true rfl, Nat.le_of_ble_eq_true rfl⟩ dX4_putWithJoint_4 ?_
  refine W.eq (g2 := F0 m 7 ls [.int (iI (fstI (pB ln br rs cL ed pBk (dZ - 1).toNat p) nH.toNat))]) rfl ?_
  refine nn_name (fun xb exb => ?_)
  refine lv_istore (lv' := [(4, .int (iI xb)), (0, .ref y), (1, .ref a), (2, .int (iI p)), (3, .ref bl)]) hc.1 hc.2.1 dX4_putWithJoint_7 hl (by decide) rfl (fun ls hl => ?_)
  have hrb := fstI_r (pB ln br rs cL ed pBk (dZ - 1).toNat p) nH.toNat
  refine lv_iload hc.1 hc.2.1 dX4_putWithJoint_9 (lv_at hl 0 rfl) ?_
  refine nn_if_lt hc dX4_putWithJoint_11 (tgt := 53) (by decide) (by omega) (fun c1 => ?_) (fun c1 => ?_)
  · refine lv_aload_n hc.1 hc.2.1 dX4_putWithJoint_53 rfl (lv_at hl 1 rfl) ?_
    refine lv_aload_n hc.1 hc.2.1 dX4_putWithJoint_54 rfl (lv_at hl 2 rfl) ?_
    refine nn_Vp (As := [.ref a]) (st := []) hc hw hy rfl (c_X4_broadestFor l g  hy hp hln hrs ha (by omega) (by omega) (by omega) (by omega)) (cwV 1 hc.2.2.2.2 gX4_putWithJoint_X4_broadestFor rfl rfl rfl (by decide +kernel) ⟨Nat.le_of_ble_eq_true rfl, Nat.le_of_ble_eq_true rfl⟩) rfl hl.1 rfl (Nat.le_of_ble_eq_true rfl) ⟨Nat.le_of_ble_eq_true rfl, Nat.le_of_ble_eq_true rfl⟩ dX4_putWithJoint_55 ?_
    refine W.eq (g2 := F0 m 58 ls [.int (iI (fstI (srv ln rs cL) nH.toNat))]) rfl ?_
    refine nn_name (fun xw exw => ?_)
    refine lv_istore (lv' := [(5, .int (iI xw)), (4, .int (iI xb)), (0, .ref y), (1, .ref a), (2, .int (iI p)), (3, .ref bl)]) hc.1 hc.2.1 dX4_putWithJoint_58 hl (by decide) rfl (fun ls hl => ?_)
    have hrw := fstI_r (srv ln rs cL) nH.toNat
    refine lv_iload hc.1 hc.2.1 dX4_putWithJoint_60 (lv_at hl 0 rfl) ?_
    refine nn_if_ge hc dX4_putWithJoint_62 (tgt := 67) (by decide) (by omega) (fun c2 => ?_) (fun c2 => ?_)
    · have hPw := rP xw.toNat (by omega)
      have hRw := rR xw.toNat (by omega)
      refine lv_aload_n hc.1 hc.2.1 dX4_putWithJoint_67 rfl (lv_at hl 2 rfl) ?_
      refine lv_iload_n hc.1 hc.2.1 dX4_putWithJoint_68 rfl (lv_at hl 4 rfl) ?_
      refine lv_aload_n hc.1 hc.2.1 dX4_putWithJoint_69 rfl (lv_at hl 2 rfl) ?_
      refine nn_get hc hw hy hiX4 rfl 0 (by decide) rfl lk15 dX4_putWithJoint_70 ?_
      refine nn_get hc hw hp hiX5 rfl 1 (by decide) rfl lk55 dX4_putWithJoint_73 ?_
      refine lv_iload hc.1 hc.2.1 dX4_putWithJoint_76 (lv_at hl 0 rfl) ?_
      refine nn_iald hc hw hbr (by omega) (by omega) dX4_putWithJoint_78 ?_
      refine lv_aload_n hc.1 hc.2.1 dX4_putWithJoint_79 rfl (lv_at hl 5 rfl) ?_
      refine nn_Vp (As := [.int (iI p), .int (iI (br xw.toNat)), .ref bl]) (st := []) hc hw hy rfl (c_X4_cutAt l g  hy hp hb hed (by omega) (by omega) (by omega) (by omega) (by omega)) (cwV 3 hc.2.2.2.2 gX4_putWithJoint_X4_cutAt rfl rfl rfl (by decide +kernel) ⟨Nat.le_of_ble_eq_true rfl, Nat.le_of_ble_eq_true rfl⟩) rfl hl.1 rfl (Nat.le_of_ble_eq_true rfl) ⟨Nat.le_of_ble_eq_true rfl, Nat.le_of_ble_eq_true rfl⟩ dX4_putWithJoint_80 ?_
      refine W.eq (g2 := F0 m 83 ls [.int (iI (cutI (fun v => brk ed pBk (p + v) (dZ - 1).toNat) ((br xw.toNat) - 1).toNat))]) rfl ?_
      refine nn_name (fun xc exc => ?_)
      refine lv_istore (lv' := [(6, .int (iI xc)), (5, .int (iI xw)), (4, .int (iI xb)), (0, .ref y), (1, .ref a), (2, .int (iI p)), (3, .ref bl)]) hc.1 hc.2.1 dX4_putWithJoint_83 hl (by decide) rfl (fun ls hl => ?_)
      have hrc := cutI_r (fun v => brk ed pBk (p + v) (dZ - 1).toNat) (br xw.toNat - 1).toNat
      refine lv_iload hc.1 hc.2.1 dX4_putWithJoint_85 (lv_at hl 0 rfl) ?_
      refine nn_iconst hc dX4_putWithJoint_87 ?_
      refine nn_icmp_ge hc dX4_putWithJoint_88 (tgt := 93) (by decide) (by omega) (by decide) (fun c3 => ?_) (fun c3 => ?_)
      · exact absurd hpj (by unfold pj; rw [if_pos (by omega), if_neg (by omega), ← exw, if_neg (by omega)]; exact fun z => by cases z)
      · refine nn_iconst hc dX4_putWithJoint_91 ?_
        exact hrt _ _ _ dX4_putWithJoint_92 (by first | rfl | omega | (split <;> omega))
    · refine nn_iconst hc dX4_putWithJoint_65 ?_
      exact hrt _ _ _ dX4_putWithJoint_66 (by first | rfl | omega | (split <;> omega))
  · exact absurd hpj (by unfold pj; rw [if_neg (by omega)]; exact fun z => by cases z)

set_option maxHeartbeats 4000000 in
set_option maxRecDepth 100000 in
theorem c_X4_putWithJoint_yes (l : Launch) (g : gG) {n : Nat} {S : Nat → gE} {y : Nat} {pl : Nat} {nH pHi pWi pLp pBk pHp : Int} {ln br rs : Nat → Int} {a : Nat} {cL cF cG cR cZ cW cU : Int} {bl : Nat} {dL dF dG dR dZ dW dU : Int} {ed : Nat → Int} {hf eo : Nat → Int} {p : Int} {h : Nat} {v : Int} (hy : S y = oO 4 [.ref pl, .ref (y + 1)]) (hp : S pl = oO 5 [.ref (pl + 1), .ref (pl + 2), .ref (pl + 3), .int (iI nH), .int (iI pHi), .int (iI pWi), .int (iI pLp), .int (iI pBk), .int (iI pHp)]) (hln : S (pl + 1) = oI g 8 ln) (hbr : S (pl + 2) = oI g 8 br) (hrs : S (y + 1) = oI g 8 rs) (ha : S a = oO 3 [.ref (a + 1), .ref (a + 2), .int (iI cL), .int (iI cF), .int (iI cG), .int (iI cR), .int (iI cZ), .int (iI cW), .int (iI cU)]) (hhf : S (a + 1) = oI g 60 hf) (heo : S (a + 2) = oI g 60 eo) (hb : S bl = oO 3 [.ref (bl + 1), .ref (bl + 2), .int (iI dL), .int (iI dF), .int (iI dG), .int (iI dR), .int (iI dZ), .int (iI dW), .int (iI dU)]) (hed : S (bl + 2) = oI g 60 ed) (rH : 0 ≤ nH ∧ nH ≤ 8) (rP : ∀ i : Nat, (i : Int) < nH → (20 ≤ ln i ∧ ln i ≤ 60) ∧ (10 ≤ br i ∧ br i ≤ 60)) (rR : ∀ i : Nat, (i : Int) < nH → 0 ≤ rs i ∧ rs i ≤ 1000000) (rL : 0 ≤ cL ∧ cL ≤ 60) (rZb : 0 ≤ dZ ∧ dZ ≤ 60) (red : ∀ k : Nat, (k : Int) < dZ - 1 → -1000000 ≤ ed k ∧ ed k ≤ 1000000) (rbk : 0 ≤ pBk ∧ pBk ≤ 1000000) (rp : 0 ≤ p ∧ p ≤ 1000000) (rZ : 0 ≤ cZ ∧ cZ < 60) (hd : ((a + 3 ≤ y ∨ y + 2 ≤ a) ∧ (a + 3 ≤ pl ∨ pl + 4 ≤ a) ∧ (a + 3 ≤ bl ∨ bl + 3 ≤ a)) ∧ (y + 2 ≤ pl ∨ pl + 4 ≤ y) ∧ (y + 2 ≤ bl ∨ bl + 3 ≤ y)) (hpj : pj nH.toNat ln br rs cL ed pBk (dZ - 1).toNat p = some (h, v)) : g_Cs l yX4_putWithJoint wsX4_putWithJoint { frames := 4, cells := 0, slots := 0, locals := 80 } g [.ref y, .ref a, .int (iI p), .ref bl] n S (fun vr n1 S1 => vr = some (.int (iI 1)) ∧ n = n1 ∧ S1 (y + 1) = oI g 8 (va_up rs h (rs h - 1)) ∧ S1 a = oO 3 [.ref (a + 1), .ref (a + 2), .int (iI cL), .int (iI cF), .int (iI cG), .int (iI cR), .int (iI (cZ + 1)), .int (iI (cW + (if v < br h then (br h - v) * cL else 0))), .int (iI (cU + (if v < br h then 1 else 0)))] ∧ S1 (a + 1) = oI g 60 (va_up hf cZ.toNat (h : Int)) ∧ S1 (a + 2) = oI g 60 (va_up eo cZ.toNat ((if 0 < cZ ∧ cZ ≤ 60 then eo (cZ - 1).toNat else 0) + v)) ∧ (∀ b, b ≠ (y + 1) → b ≠ a → b ≠ (a + 1) → b ≠ (a + 2) → S1 b = S b)) 0 0 := by
  refine g_Cs.of (cc := cX4_putWithJoint) (maxL := 7) (ret := (some .boolean)) (by decide) rfl (Nat.le_of_ble_eq_true rfl) ?_
  intro pp ee s m below meth c Q H locs ls hc hnm hw hl hret
  have hl : lv_has ls 7 [(0, .ref y), (1, .ref a), (2, .int (iI p)), (3, .ref bl)] := hl
  have hiX4 : ∀ w ∈ u_ws RX4 TX4 2, w ∈ wsX4_putWithJoint := by decide +kernel
  have hiX5 : ∀ w ∈ u_ws RX5 TX5 9, w ∈ wsX4_putWithJoint := by decide +kernel
  have lk15 : Cond.fieldLink RX4 15 "RoofCourses$Layer" "plan" "LRoofCourses$Plan;" ∈ wsX4_putWithJoint := by decide +kernel
  have lk55 : Cond.fieldLink RX4 55 "RoofCourses$Plan" "breadth" "[I" ∈ wsX4_putWithJoint := by decide +kernel
  have lk9 : Cond.fieldLink RX4 9 "RoofCourses$Layer" "rest" "[I" ∈ wsX4_putWithJoint := by decide +kernel
  refine lv_aload_n hc.1 hc.2.1 dX4_putWithJoint_0 rfl (lv_at hl 0 rfl) ?_
  refine lv_iload_n hc.1 hc.2.1 dX4_putWithJoint_1 rfl (lv_at hl 2 rfl) ?_
  refine lv_aload_n hc.1 hc.2.1 dX4_putWithJoint_2 rfl (lv_at hl 1 rfl) ?_
  refine lv_aload_n hc.1 hc.2.1 dX4_putWithJoint_3 rfl (lv_at hl 3 rfl) ?_
  refine nn_Vp (As := [.int (iI p), .ref a, .ref bl]) (st := []) hc hw hy rfl (c_X4_brokenAt l g  hy hp hln hbr hrs ha hb hed (by omega) (by omega) (by omega) (by omega) (by omega) (by omega) (by omega) (by omega)) (cwV 3 hc.2.2.2.2 gX4_putWithJoint_X4_brokenAt rfl rfl rfl (by decide +kernel) ⟨Nat.le_of_ble_eq_true rfl, Nat.le_of_ble_eq_true rfl⟩) rfl hl.1 rfl (Nat.le_of_ble_eq_true rfl) ⟨Nat.le_of_ble_eq_true rfl, Nat.le_of_ble_eq_true rfl⟩ dX4_putWithJoint_4 ?_
  refine W.eq (g2 := F0 m 7 ls [.int (iI (fstI (pB ln br rs cL ed pBk (dZ - 1).toNat p) nH.toNat))]) rfl ?_
  refine nn_name (fun xb exb => ?_)
  refine lv_istore (lv' := [(4, .int (iI xb)), (0, .ref y), (1, .ref a), (2, .int (iI p)), (3, .ref bl)]) hc.1 hc.2.1 dX4_putWithJoint_7 hl (by decide) rfl (fun ls hl => ?_)
  have hrb := fstI_r (pB ln br rs cL ed pBk (dZ - 1).toNat p) nH.toNat
  refine lv_iload hc.1 hc.2.1 dX4_putWithJoint_9 (lv_at hl 0 rfl) ?_
  refine nn_if_lt hc dX4_putWithJoint_11 (tgt := 53) (by decide) (by omega) (fun c1 => ?_) (fun c1 => ?_)
  · refine lv_aload_n hc.1 hc.2.1 dX4_putWithJoint_53 rfl (lv_at hl 1 rfl) ?_
    refine lv_aload_n hc.1 hc.2.1 dX4_putWithJoint_54 rfl (lv_at hl 2 rfl) ?_
    refine nn_Vp (As := [.ref a]) (st := []) hc hw hy rfl (c_X4_broadestFor l g  hy hp hln hrs ha (by omega) (by omega) (by omega) (by omega)) (cwV 1 hc.2.2.2.2 gX4_putWithJoint_X4_broadestFor rfl rfl rfl (by decide +kernel) ⟨Nat.le_of_ble_eq_true rfl, Nat.le_of_ble_eq_true rfl⟩) rfl hl.1 rfl (Nat.le_of_ble_eq_true rfl) ⟨Nat.le_of_ble_eq_true rfl, Nat.le_of_ble_eq_true rfl⟩ dX4_putWithJoint_55 ?_
    refine W.eq (g2 := F0 m 58 ls [.int (iI (fstI (srv ln rs cL) nH.toNat))]) rfl ?_
    refine nn_name (fun xw exw => ?_)
    refine lv_istore (lv' := [(5, .int (iI xw)), (4, .int (iI xb)), (0, .ref y), (1, .ref a), (2, .int (iI p)), (3, .ref bl)]) hc.1 hc.2.1 dX4_putWithJoint_58 hl (by decide) rfl (fun ls hl => ?_)
    have hrw := fstI_r (srv ln rs cL) nH.toNat
    refine lv_iload hc.1 hc.2.1 dX4_putWithJoint_60 (lv_at hl 0 rfl) ?_
    refine nn_if_ge hc dX4_putWithJoint_62 (tgt := 67) (by decide) (by omega) (fun c2 => ?_) (fun c2 => ?_)
    · have hPw := rP xw.toNat (by omega)
      have hRw := rR xw.toNat (by omega)
      refine lv_aload_n hc.1 hc.2.1 dX4_putWithJoint_67 rfl (lv_at hl 2 rfl) ?_
      refine lv_iload_n hc.1 hc.2.1 dX4_putWithJoint_68 rfl (lv_at hl 4 rfl) ?_
      refine lv_aload_n hc.1 hc.2.1 dX4_putWithJoint_69 rfl (lv_at hl 2 rfl) ?_
      refine nn_get hc hw hy hiX4 rfl 0 (by decide) rfl lk15 dX4_putWithJoint_70 ?_
      refine nn_get hc hw hp hiX5 rfl 1 (by decide) rfl lk55 dX4_putWithJoint_73 ?_
      refine lv_iload hc.1 hc.2.1 dX4_putWithJoint_76 (lv_at hl 0 rfl) ?_
      refine nn_iald hc hw hbr (by omega) (by omega) dX4_putWithJoint_78 ?_
      refine lv_aload_n hc.1 hc.2.1 dX4_putWithJoint_79 rfl (lv_at hl 5 rfl) ?_
      refine nn_Vp (As := [.int (iI p), .int (iI (br xw.toNat)), .ref bl]) (st := []) hc hw hy rfl (c_X4_cutAt l g  hy hp hb hed (by omega) (by omega) (by omega) (by omega) (by omega)) (cwV 3 hc.2.2.2.2 gX4_putWithJoint_X4_cutAt rfl rfl rfl (by decide +kernel) ⟨Nat.le_of_ble_eq_true rfl, Nat.le_of_ble_eq_true rfl⟩) rfl hl.1 rfl (Nat.le_of_ble_eq_true rfl) ⟨Nat.le_of_ble_eq_true rfl, Nat.le_of_ble_eq_true rfl⟩ dX4_putWithJoint_80 ?_
      refine W.eq (g2 := F0 m 83 ls [.int (iI (cutI (fun v => brk ed pBk (p + v) (dZ - 1).toNat) ((br xw.toNat) - 1).toNat))]) rfl ?_
      refine nn_name (fun xc exc => ?_)
      refine lv_istore (lv' := [(6, .int (iI xc)), (5, .int (iI xw)), (4, .int (iI xb)), (0, .ref y), (1, .ref a), (2, .int (iI p)), (3, .ref bl)]) hc.1 hc.2.1 dX4_putWithJoint_83 hl (by decide) rfl (fun ls hl => ?_)
      have hrc := cutI_r (fun v => brk ed pBk (p + v) (dZ - 1).toNat) (br xw.toNat - 1).toNat
      refine lv_iload hc.1 hc.2.1 dX4_putWithJoint_85 (lv_at hl 0 rfl) ?_
      refine nn_iconst hc dX4_putWithJoint_87 ?_
      refine nn_icmp_ge hc dX4_putWithJoint_88 (tgt := 93) (by decide) (by omega) (by decide) (fun c3 => ?_) (fun c3 => ?_)
      · have hq : some (xw.toNat, xc) = some (h, v) := by rw [← hpj]; unfold pj; rw [if_pos (by omega), if_neg (by omega), ← exw, if_neg (by omega), ← exc]
        obtain ⟨hh, hv⟩ : xw.toNat = h ∧ xc = v := by simpa using hq
        subst hh
        subst hv
        refine lv_aload_n hc.1 hc.2.1 dX4_putWithJoint_93 rfl (lv_at hl 3 rfl) ?_
        refine nn_get hc hw hy hiX4 rfl 1 (by decide) rfl lk9 dX4_putWithJoint_94 ?_
        refine lv_iload hc.1 hc.2.1 dX4_putWithJoint_97 (lv_at hl 1 rfl) ?_
        refine lv_dup2_11 hc.1 hc.2.1 dX4_putWithJoint_99 rfl rfl ?_
        refine nn_iald hc hw hrs (by omega) (by omega) dX4_putWithJoint_100 ?_
        refine nn_iconst hc dX4_putWithJoint_101 ?_
        refine nn_isub hc dX4_putWithJoint_102 ?_
        refine nn_iast hc hw hrs (by omega) (by omega) dX4_putWithJoint_103 (fun S4 H locs hS4 fS4 hw => ?_)
        refine lv_aload_n hc.1 hc.2.1 dX4_putWithJoint_104 rfl (lv_at hl 4 rfl) ?_
        refine lv_iload hc.1 hc.2.1 dX4_putWithJoint_105 (lv_at hl 1 rfl) ?_
        refine lv_aload_n hc.1 hc.2.1 dX4_putWithJoint_107 rfl (lv_at hl 3 rfl) ?_
        have e5 : S4 y = oO 4 [.ref pl, .ref (y + 1)] := (fS4 y (by omega)).trans hy
        refine nn_get hc hw e5 hiX4 rfl 0 (by decide) rfl lk15 dX4_putWithJoint_108 ?_
        have e6 : S4 pl = oO 5 [.ref (pl + 1), .ref (pl + 2), .ref (pl + 3), .int (iI nH), .int (iI pHi), .int (iI pWi), .int (iI pLp), .int (iI pBk), .int (iI pHp)] := (fS4 pl (by omega)).trans hp
        refine nn_get hc hw e6 hiX5 rfl 1 (by decide) rfl lk55 dX4_putWithJoint_111 ?_
        refine lv_iload hc.1 hc.2.1 dX4_putWithJoint_114 (lv_at hl 1 rfl) ?_
        have e7 : S4 (pl + 2) = oI g 8 br := (fS4 (pl + 2) (by omega)).trans hbr
        refine nn_iald hc hw e7 (by omega) (by omega) dX4_putWithJoint_116 ?_
        refine lv_iload hc.1 hc.2.1 dX4_putWithJoint_117 (lv_at hl 0 rfl) ?_
        have e8 : S4 a = oO 3 [.ref (a + 1), .ref (a + 2), .int (iI cL), .int (iI cF), .int (iI cG), .int (iI cR), .int (iI cZ), .int (iI cW), .int (iI cU)] := (fS4 a (by omega)).trans ha
        have e9 : S4 (a + 1) = oI g 60 hf := (fS4 (a + 1) (by omega)).trans hhf
        have e10 : S4 (a + 2) = oI g 60 eo := (fS4 (a + 2) (by omega)).trans heo
        refine nn_Vs (As := [.int (iI xw), .int (iI (br xw.toNat)), .int (iI xc)]) (st := []) hc hw e8 rfl (c_X3_put l g  e8 e9 e10 (by omega) (by omega) (by omega)) (cwV 3 hc.2.2.2.2 gX4_putWithJoint_X3_put rfl rfl rfl (by decide +kernel) ⟨Nat.le_of_ble_eq_true rfl, Nat.le_of_ble_eq_true rfl⟩) rfl hl.1 rfl (Nat.le_of_ble_eq_true rfl) ⟨Nat.le_of_ble_eq_true rfl, Nat.le_of_ble_eq_true rfl⟩ dX4_putWithJoint_119 (fun vr n1 S11 H locs qS11 hw => ?_)
        obtain ⟨rfl, rfl, hS11_0, hS11_1, hS11_2, fS11⟩ := qS11
        refine W.eq (g2 := F0 m 122 ls []) rfl ?_
        refine nn_iconst hc dX4_putWithJoint_122 ?_
        have e12 : S11 (y + 1) = oI g 8 (va_up rs xw.toNat ((rs xw.toNat) - 1)) := (fS11 (y + 1) (by omega) (by omega) (by omega)).trans hS4
        exact hret (some (.int (iI 1))) _ S11 _ _ _ _ hw (⟨rfl, rfl, (e12), (hS11_0), (by rw [show ((xw.toNat : Nat) : Int) = xw by omega]; exact hS11_1), (hS11_2), fun b hb0 hb1 hb2 hb3 => ((fS11 b hb1 hb2 hb3)).trans (fS4 b hb0)⟩) ⟨_, rfl, by first | rfl | exact nn_nb _, dX4_putWithJoint_123⟩
      · exact absurd hpj (by unfold pj; rw [if_pos (by omega), if_neg (by omega), ← exw, if_pos (by omega)]; exact fun z => by cases z)
    · exact absurd hpj (by unfold pj; rw [if_pos (by omega), if_pos (by omega)]; exact fun z => by cases z)
  · have hPb := rP xb.toNat (by omega)
    have hRb := rR xb.toNat (by omega)
    have hq : some (xb.toNat, br xb.toNat) = some (h, v) := by rw [← hpj]; unfold pj; rw [if_neg (by omega), ← exb]
    obtain ⟨hh, hv⟩ : xb.toNat = h ∧ br xb.toNat = v := by simpa using hq
    subst hh
    subst hv
    refine lv_aload_n hc.1 hc.2.1 dX4_putWithJoint_14 rfl (lv_at hl 1 rfl) ?_
    refine nn_get hc hw hy hiX4 rfl 1 (by decide) rfl lk9 dX4_putWithJoint_15 ?_
    refine lv_iload hc.1 hc.2.1 dX4_putWithJoint_18 (lv_at hl 0 rfl) ?_
    refine lv_dup2_11 hc.1 hc.2.1 dX4_putWithJoint_20 rfl rfl ?_
    refine nn_iald hc hw hrs (by omega) (by omega) dX4_putWithJoint_21 ?_
    refine nn_iconst hc dX4_putWithJoint_22 ?_
    refine nn_isub hc dX4_putWithJoint_23 ?_
    refine nn_iast hc hw hrs (by omega) (by omega) dX4_putWithJoint_24 (fun S13 H locs hS13 fS13 hw => ?_)
    refine lv_aload_n hc.1 hc.2.1 dX4_putWithJoint_25 rfl (lv_at hl 2 rfl) ?_
    refine lv_iload hc.1 hc.2.1 dX4_putWithJoint_26 (lv_at hl 0 rfl) ?_
    refine lv_aload_n hc.1 hc.2.1 dX4_putWithJoint_28 rfl (lv_at hl 1 rfl) ?_
    have e14 : S13 y = oO 4 [.ref pl, .ref (y + 1)] := (fS13 y (by omega)).trans hy
    refine nn_get hc hw e14 hiX4 rfl 0 (by decide) rfl lk15 dX4_putWithJoint_29 ?_
    have e15 : S13 pl = oO 5 [.ref (pl + 1), .ref (pl + 2), .ref (pl + 3), .int (iI nH), .int (iI pHi), .int (iI pWi), .int (iI pLp), .int (iI pBk), .int (iI pHp)] := (fS13 pl (by omega)).trans hp
    refine nn_get hc hw e15 hiX5 rfl 1 (by decide) rfl lk55 dX4_putWithJoint_32 ?_
    refine lv_iload hc.1 hc.2.1 dX4_putWithJoint_35 (lv_at hl 0 rfl) ?_
    have e16 : S13 (pl + 2) = oI g 8 br := (fS13 (pl + 2) (by omega)).trans hbr
    refine nn_iald hc hw e16 (by omega) (by omega) dX4_putWithJoint_37 ?_
    refine lv_aload_n hc.1 hc.2.1 dX4_putWithJoint_38 rfl (lv_at hl 1 rfl) ?_
    refine nn_get hc hw e14 hiX4 rfl 0 (by decide) rfl lk15 dX4_putWithJoint_39 ?_
    refine nn_get hc hw e15 hiX5 rfl 1 (by decide) rfl lk55 dX4_putWithJoint_42 ?_
    refine lv_iload hc.1 hc.2.1 dX4_putWithJoint_45 (lv_at hl 0 rfl) ?_
    refine nn_iald hc hw e16 (by omega) (by omega) dX4_putWithJoint_47 ?_
    have e17 : S13 a = oO 3 [.ref (a + 1), .ref (a + 2), .int (iI cL), .int (iI cF), .int (iI cG), .int (iI cR), .int (iI cZ), .int (iI cW), .int (iI cU)] := (fS13 a (by omega)).trans ha
    have e18 : S13 (a + 1) = oI g 60 hf := (fS13 (a + 1) (by omega)).trans hhf
    have e19 : S13 (a + 2) = oI g 60 eo := (fS13 (a + 2) (by omega)).trans heo
    refine nn_Vs (As := [.int (iI xb), .int (iI (br xb.toNat)), .int (iI (br xb.toNat))]) (st := []) hc hw e17 rfl (c_X3_put l g  e17 e18 e19 (by omega) (by omega) (by omega)) (cwV 3 hc.2.2.2.2 gX4_putWithJoint_X3_put rfl rfl rfl (by decide +kernel) ⟨Nat.le_of_ble_eq_true rfl, Nat.le_of_ble_eq_true rfl⟩) rfl hl.1 rfl (Nat.le_of_ble_eq_true rfl) ⟨Nat.le_of_ble_eq_true rfl, Nat.le_of_ble_eq_true rfl⟩ dX4_putWithJoint_48 (fun vr n1 S20 H locs qS20 hw => ?_)
    obtain ⟨rfl, rfl, hS20_0, hS20_1, hS20_2, fS20⟩ := qS20
    refine W.eq (g2 := F0 m 51 ls []) rfl ?_
    refine nn_iconst hc dX4_putWithJoint_51 ?_
    have e21 : S20 (y + 1) = oI g 8 (va_up rs xb.toNat ((rs xb.toNat) - 1)) := (fS20 (y + 1) (by omega) (by omega) (by omega)).trans hS13
    exact hret (some (.int (iI 1))) _ S20 _ _ _ _ hw (⟨rfl, rfl, (e21), (hS20_0), (by rw [show ((xb.toNat : Nat) : Int) = xb by omega]; exact hS20_1), (hS20_2), fun b hb0 hb1 hb2 hb3 => ((fS20 b hb1 hb2 hb3)).trans (fS13 b hb0)⟩) ⟨_, rfl, by first | rfl | exact nn_nb _, dX4_putWithJoint_52⟩

set_option maxHeartbeats 4000000 in
set_option maxRecDepth 100000 in
theorem c_X4_fill_yes (l : Launch) (g : gG) {n : Nat} {S : Nat → gE} {y : Nat} {pl : Nat} {nH pHi pWi pLp pBk pHp : Int} {ln br rs : Nat → Int} {a : Nat} {cL cF cG cR cZ cW cU : Int} {bl : Nat} {dL dF dG dR dZ dW dU : Int} {ed : Nat → Int} {hf eo lv : Nat → Int} {lf : Nat} {fl : Int} {sl : sL} (hy : S y = oO 4 [.ref pl, .ref (y + 1)]) (hp : S pl = oO 5 [.ref (pl + 1), .ref (pl + 2), .ref (pl + 3), .int (iI nH), .int (iI pHi), .int (iI pWi), .int (iI pLp), .int (iI pBk), .int (iI pHp)]) (hln : S (pl + 1) = oI g 8 ln) (hbr : S (pl + 2) = oI g 8 br) (hrs : S (y + 1) = oI g 8 rs) (ha : S a = oO 3 [.ref (a + 1), .ref (a + 2), .int (iI cL), .int (iI cF), .int (iI cG), .int (iI cR), .int (iI cZ), .int (iI cW), .int (iI cU)]) (hhf : S (a + 1) = oI g 60 hf) (heo : S (a + 2) = oI g 60 eo) (hb : S bl = oO 3 [.ref (bl + 1), .ref (bl + 2), .int (iI dL), .int (iI dF), .int (iI dG), .int (iI dR), .int (iI dZ), .int (iI dW), .int (iI dU)]) (hed : S (bl + 2) = oI g 60 ed) (hlf : S lf = oI g 8 lv) (rH : 0 ≤ nH ∧ nH ≤ 8) (rP : ∀ i : Nat, (i : Int) < nH → (20 ≤ ln i ∧ ln i ≤ 60) ∧ (10 ≤ br i ∧ br i ≤ 60)) (rV : ∀ i : Nat, (i : Int) < nH → 0 ≤ lv i ∧ lv i ≤ 1000000) (rZb : 0 ≤ dZ ∧ dZ ≤ 60) (red : ∀ k : Nat, (k : Int) < dZ - 1 → -1000000 ≤ ed k ∧ ed k ≤ 1000000) (rbk : 0 ≤ pBk ∧ pBk ≤ 1000000) (rffl : 20 ≤ fl ∧ fl ≤ 60) (rlp : 0 ≤ pLp ∧ pLp ≤ 10) (rwi : 0 ≤ pWi ∧ pWi ≤ 1000) (rft : 0 ≤ dF + dG ∧ dF + dG ≤ 1000) (rhp : 0 ≤ pHp * (dF + dG) ∧ pHp * (dF + dG) ≤ 1000000) (hd : ((a + 3 ≤ y ∨ y + 2 ≤ a) ∧ (a + 3 ≤ pl ∨ pl + 4 ≤ a) ∧ (a + 3 ≤ bl ∨ bl + 3 ≤ a)) ∧ (y + 2 ≤ pl ∨ pl + 4 ≤ y) ∧ (y + 2 ≤ bl ∨ bl + 3 ≤ y)) (hdl : (lf < a ∨ a + 3 ≤ lf) ∧ lf ≠ y + 1) (hlay : layG nH.toNat ln br fl (rmF pWi pHp (dF + dG)) ed pBk (dZ - 1).toNat 60 lv 0 = some sl) : g_Cs l yX4_fill wsX4_fill { frames := 5, cells := 0, slots := 0, locals := 106 } g [.ref y, .ref a, .int (iI fl), .ref lf, .ref bl] n S (fun vr n1 S1 => ∃ r1 : Nat → Int, ∃ h1 : Nat → Int, ∃ e1 : Nat → Int, vr = some (.int (iI 1)) ∧ n = n1 ∧ S1 (y + 1) = oI g 8 r1 ∧ S1 a = oO 3 [.ref (a + 1), .ref (a + 2), .int (iI fl), .int (iI (dF + dG)), .int (iI ((fl - pLp) / 2)), .int (iI (rmF pWi pHp (dF + dG))), .int (iI sl.length), .int (iI (wst br fl sl)), .int (iI (cuts br sl))] ∧ S1 (a + 1) = oI g 60 h1 ∧ S1 (a + 2) = oI g 60 e1 ∧ (∀ i : Nat, i < sl.length → h1 i = slH sl i) ∧ (∀ i : Nat, i < sl.length → e1 i = slE sl i) ∧ (∀ b, b ≠ (y + 1) → b ≠ a → b ≠ (a + 1) → b ≠ (a + 2) → S1 b = S b)) 0 0 := by
  refine g_Cs.of (cc := cX4_fill) (maxL := 9) (ret := (some .boolean)) (by decide) rfl (Nat.le_of_ble_eq_true rfl) ?_
  intro pp ee s m below meth c Q H locs ls hc hnm hw hl hret
  have hl : lv_has ls 9 [(0, .ref y), (1, .ref a), (2, .int (iI fl)), (3, .ref lf), (4, .ref bl)] := hl
  have hiX4 : ∀ w ∈ u_ws RX4 TX4 2, w ∈ wsX4_fill := by decide +kernel
  have hiX3 : ∀ w ∈ u_ws RX3 TX3 9, w ∈ wsX4_fill := by decide +kernel
  have hiX5 : ∀ w ∈ u_ws RX5 TX5 9, w ∈ wsX4_fill := by decide +kernel
  have lk9 : Cond.fieldLink RX4 9 "RoofCourses$Layer" "rest" "[I" ∈ wsX4_fill := by decide +kernel
  have lkK19 : Cond.methodLink RX4 19 arraycopyName ∈ wsX4_fill := by decide +kernel
  have lkKn : Cond.native arraycopyName ∈ wsX4_fill := by decide +kernel
  have lkKs : Cond.static arraycopyName ∈ wsX4_fill := by decide +kernel
  have lkKi : Cond.initialized "java/lang/System" ∈ wsX4_fill := by decide +kernel
  have lk15 : Cond.fieldLink RX4 15 "RoofCourses$Layer" "plan" "LRoofCourses$Plan;" ∈ wsX4_fill := by decide +kernel
  have lk44 : Cond.fieldLink RX4 44 "RoofCourses$Course" "size" "I" ∈ wsX4_fill := by decide +kernel
  have lk55 : Cond.fieldLink RX4 55 "RoofCourses$Plan" "breadth" "[I" ∈ wsX4_fill := by decide +kernel
  have lk58 : Cond.fieldLink RX4 58 "RoofCourses$Course" "room" "I" ∈ wsX4_fill := by decide +kernel
  refine lv_aload_n hc.1 hc.2.1 dX4_fill_0 rfl (lv_at hl 3 rfl) ?_
  refine nn_iconst hc dX4_fill_1 ?_
  refine lv_aload_n hc.1 hc.2.1 dX4_fill_2 rfl (lv_at hl 0 rfl) ?_
  refine nn_get hc hw hy hiX4 rfl 1 (by decide) rfl lk9 dX4_fill_3 ?_
  refine nn_iconst hc dX4_fill_6 ?_
  refine nn_bipush hc dX4_fill_7 (by decide +kernel) ?_
  refine nn_copy hc hl.1 hw lkK19 lkKn lkKs lkKi hlf hrs (by omega) (by decide) (by decide) (Nat.le_of_ble_eq_true rfl) (Nat.le_of_ble_eq_true rfl) dX4_fill_9 (fun S1 H locs hS1 fS1 hw => ?_)
  have hS1 : S1 (y + 1) = oI g 8 (va_cpy lv rs 0 0 8) := hS1
  refine lv_aload hc.1 hc.2.1 dX4_fill_12 (lv_at hl 4 rfl) ?_
  have e2 : S1 bl = oO 3 [.ref (bl + 1), .ref (bl + 2), .int (iI dL), .int (iI dF), .int (iI dG), .int (iI dR), .int (iI dZ), .int (iI dW), .int (iI dU)] := (fS1 bl (by omega)).trans hb
  refine nn_Vp (As := []) (st := []) hc hw e2 rfl (c_X3_head l g  e2 ) (cwV 0 hc.2.2.2.2 gX4_fill_X3_head rfl rfl rfl (by decide +kernel) ⟨Nat.le_of_ble_eq_true rfl, Nat.le_of_ble_eq_true rfl⟩) rfl hl.1 rfl (Nat.le_of_ble_eq_true rfl) ⟨Nat.le_of_ble_eq_true rfl, Nat.le_of_ble_eq_true rfl⟩ dX4_fill_14 ?_
  refine W.eq (g2 := F0 m 17 ls [.int (iI (dF + dG))]) rfl ?_
  refine nn_name (fun xf exf => ?_)
  refine lv_istore (lv' := [(5, .int (iI xf)), (0, .ref y), (1, .ref a), (2, .int (iI fl)), (3, .ref lf), (4, .ref bl)]) hc.1 hc.2.1 dX4_fill_17 hl (by decide) rfl (fun ls hl => ?_)
  have hxf : xf = dF + dG := exf
  refine lv_aload_n hc.1 hc.2.1 dX4_fill_19 rfl (lv_at hl 2 rfl) ?_
  refine lv_iload_n hc.1 hc.2.1 dX4_fill_20 rfl (lv_at hl 3 rfl) ?_
  refine lv_iload hc.1 hc.2.1 dX4_fill_21 (lv_at hl 0 rfl) ?_
  refine lv_aload_n hc.1 hc.2.1 dX4_fill_23 rfl (lv_at hl 1 rfl) ?_
  have e3 : S1 y = oO 4 [.ref pl, .ref (y + 1)] := (fS1 y (by omega)).trans hy
  refine nn_get hc hw e3 hiX4 rfl 0 (by decide) rfl lk15 dX4_fill_24 ?_
  refine lv_iload_n hc.1 hc.2.1 dX4_fill_27 rfl (lv_at hl 3 rfl) ?_
  have e4 : S1 pl = oO 5 [.ref (pl + 1), .ref (pl + 2), .ref (pl + 3), .int (iI nH), .int (iI pHi), .int (iI pWi), .int (iI pLp), .int (iI pBk), .int (iI pHp)] := (fS1 pl (by omega)).trans hp
  refine nn_Vp (As := [.int (iI fl)]) (st := [.int (iI xf), .int (iI fl), .ref a]) hc hw e4 rfl (c_X5_gaugeOf l g  e4 (by omega)) (cwV 1 hc.2.2.2.2 gX4_fill_X5_gaugeOf rfl rfl rfl (by decide +kernel) ⟨Nat.le_of_ble_eq_true rfl, Nat.le_of_ble_eq_true rfl⟩) rfl hl.1 rfl (Nat.le_of_ble_eq_true rfl) ⟨Nat.le_of_ble_eq_true rfl, Nat.le_of_ble_eq_true rfl⟩ dX4_fill_28 ?_
  refine W.eq (g2 := F0 m 31 ls [.int (iI ((fl - pLp) / 2)), .int (iI xf), .int (iI fl), .ref a]) rfl ?_
  refine lv_aload_n hc.1 hc.2.1 dX4_fill_31 rfl (lv_at hl 1 rfl) ?_
  refine nn_get hc hw e3 hiX4 rfl 0 (by decide) rfl lk15 dX4_fill_32 ?_
  refine lv_iload hc.1 hc.2.1 dX4_fill_35 (lv_at hl 0 rfl) ?_
  refine nn_Vp (As := [.int (iI xf)]) (st := [.int (iI ((fl - pLp) / 2)), .int (iI xf), .int (iI fl), .ref a]) hc hw e4 rfl (c_X5_roomAt l g  e4 (by rw [exf]; omega) (by omega)) (cwV 1 hc.2.2.2.2 gX4_fill_X5_roomAt rfl rfl rfl (by decide +kernel) ⟨Nat.le_of_ble_eq_true rfl, Nat.le_of_ble_eq_true rfl⟩) rfl hl.1 rfl (Nat.le_of_ble_eq_true rfl) ⟨Nat.le_of_ble_eq_true rfl, Nat.le_of_ble_eq_true rfl⟩ dX4_fill_37 ?_
  refine W.eq (g2 := F0 m 40 ls [.int (iI (rmF pWi pHp xf)), .int (iI ((fl - pLp) / 2)), .int (iI xf), .int (iI fl), .ref a]) rfl ?_
  have e5 : S1 a = oO 3 [.ref (a + 1), .ref (a + 2), .int (iI cL), .int (iI cF), .int (iI cG), .int (iI cR), .int (iI cZ), .int (iI cW), .int (iI cU)] := (fS1 a (by omega)).trans ha
  refine nn_Vs (As := [.int (iI fl), .int (iI xf), .int (iI ((fl - pLp) / 2)), .int (iI (rmF pWi pHp xf))]) (st := []) hc hw e5 rfl (c_X3_begin l g  e5 ) (cwV 4 hc.2.2.2.2 gX4_fill_X3_begin rfl rfl rfl (by decide +kernel) ⟨Nat.le_of_ble_eq_true rfl, Nat.le_of_ble_eq_true rfl⟩) rfl hl.1 rfl (Nat.le_of_ble_eq_true rfl) ⟨Nat.le_of_ble_eq_true rfl, Nat.le_of_ble_eq_true rfl⟩ dX4_fill_40 (fun vr n1 S6 H locs qS6 hw => ?_)
  obtain ⟨rfl, rfl, hS6_0, fS6⟩ := qS6
  refine W.eq (g2 := F0 m 43 ls []) rfl ?_
  refine nn_iconst hc dX4_fill_43 ?_
  refine lv_istore (lv' := [(6, .int (iI 0)), (5, .int (iI xf)), (0, .ref y), (1, .ref a), (2, .int (iI fl)), (3, .ref lf), (4, .ref bl)]) hc.1 hc.2.1 dX4_fill_44 hl (by decide) rfl (fun ls hl => ?_)
  have lab46 : ∀ (fu46 : Nat) (k : Int) (ks : Nat → Int) (kh : Nat → Int) (ke : Nat → Int) (kW : Int) (kU : Int) (acc : sL) (tl : sL) (S7 : Nat → gE) (H : Heap) (locs : List Loc) (ls : Array Slot), ((k = acc.length ∧ 0 ≤ k ∧ k ≤ 60) ∧ (0 ≤ tot acc ∧ tot acc < rmF pWi pHp (dF + dG))) → (layG nH.toNat ln br fl (rmF pWi pHp (dF + dG)) ed pBk (dZ - 1).toNat (60 - acc.length) ks (tot acc) = some tl) → (sl = acc ++ tl) → (kW = wst br fl acc ∧ kU = cuts br acc) → (∀ i : Nat, i < acc.length → kh i = slH acc i) → (∀ i : Nat, i < acc.length → ke i = slE acc i) → (∀ i : Nat, (i : Int) < nH → 0 ≤ ks i ∧ ks i ≤ 1000000) → S7 (y + 1) = oI g 8 ks → S7 a = oO 3 [.ref (a + 1), .ref (a + 2), .int (iI fl), .int (iI xf), .int (iI ((fl - pLp) / 2)), .int (iI (rmF pWi pHp xf)), .int (iI k), .int (iI kW), .int (iI kU)] → S7 (a + 1) = oI g 60 kh → S7 (a + 2) = oI g 60 ke → (∀ b, b ≠ (y + 1) → b ≠ a → b ≠ (a + 1) → b ≠ (a + 2) → S7 b = S6 b) → g_W g n S7 s H locs → (60 - k).toNat < fu46 → lv_has ls 9 [(6, .int (iI k)), (0, .ref y), (1, .ref a), (2, .int (iI fl)), (3, .ref lf), (4, .ref bl), (5, .int (iI xf))] → W pp l ee ({ frames := 5, cells := 0, slots := 0, locals := 106 } : Room) s m ([.ref y, .ref a, .int (iI fl), .ref lf, .ref bl] : List Value).toArray below meth c H locs 0 0 Q (F0 m 46 ls []) := by
    intro fu46
    induction fu46 with
    | zero =>
      intro k ks kh ke kW kU acc tl S7 H locs ls hk hly hsl hWU hhh hee hks hc46_0 hc46_1 hc46_2 hc46_3 fr46 hw hmeas hl
      exact absurd hmeas (Nat.not_lt_zero _)
    | succ fu46 ih46 =>
      intro k ks kh ke kW kU acc tl S7 H locs ls hk hly hsl hWU hhh hee hks hc46_0 hc46_1 hc46_2 hc46_3 fr46 hw hmeas hl
      refine lv_iload hc.1 hc.2.1 dX4_fill_46 (lv_at hl 0 rfl) ?_
      refine nn_bipush hc dX4_fill_48 (by decide +kernel) ?_
      refine nn_icmp_ge hc dX4_fill_50 (tgt := 122) (by decide) (by omega) (by decide) (fun c8 => ?_) (fun c8 => ?_)
      · exfalso; rw [show 60 - acc.length = 0 by omega] at hly; cases hly
      · have hxp0 := start_tot hk.1.1 (by omega) hee
        refine lv_aload_n hc.1 hc.2.1 dX4_fill_53 rfl (lv_at hl 2 rfl) ?_
        refine lv_aload_n hc.1 hc.2.1 dX4_fill_54 rfl (lv_at hl 2 rfl) ?_
        refine nn_get hc hw hc46_1 hiX3 rfl 6 (by decide) rfl lk44 dX4_fill_55 ?_
        refine nn_Vp (As := [.int (iI k)]) (st := []) hc hw hc46_1 rfl (c_X3_startOf l g  hc46_1 hc46_3 (by omega)) (cwV 1 hc.2.2.2.2 gX4_fill_X3_startOf rfl rfl rfl (by decide +kernel) ⟨Nat.le_of_ble_eq_true rfl, Nat.le_of_ble_eq_true rfl⟩) rfl hl.1 rfl (Nat.le_of_ble_eq_true rfl) ⟨Nat.le_of_ble_eq_true rfl, Nat.le_of_ble_eq_true rfl⟩ dX4_fill_58 ?_
        refine W.eq (g2 := F0 m 61 ls [.int (iI (if 0 < k ∧ k ≤ 60 then ke (k - 1).toNat else 0))]) rfl ?_
        refine nn_name (fun xp exp => ?_)
        refine lv_istore (lv' := [(7, .int (iI xp)), (6, .int (iI k)), (0, .ref y), (1, .ref a), (2, .int (iI fl)), (3, .ref lf), (4, .ref bl), (5, .int (iI xf))]) hc.1 hc.2.1 dX4_fill_61 hl (by decide) rfl (fun ls hl => ?_)
        have hxp : xp = tot acc := exp.trans hxp0
        have hRge := rmF_ge pWi pHp (dF + dG)
        have hRle : rmF pWi pHp xf ≤ 1000 := by unfold rmF; rw [hxf]; split <;> omega
        have hxR : rmF pWi pHp xf = rmF pWi pHp (dF + dG) := by rw [hxf]
        refine lv_aload_n hc.1 hc.2.1 dX4_fill_63 rfl (lv_at hl 2 rfl) ?_
        refine lv_iload hc.1 hc.2.1 dX4_fill_64 (lv_at hl 0 rfl) ?_
        refine lv_aload_n hc.1 hc.2.1 dX4_fill_66 rfl (lv_at hl 3 rfl) ?_
        have e9 : S1 y = oO 4 [.ref pl, .ref (y + 1)] := (fS1 y (by omega)).trans hy
        have e10 : S6 y = oO 4 [.ref pl, .ref (y + 1)] := (fS6 y (by omega)).trans e9
        have e11 : S7 y = oO 4 [.ref pl, .ref (y + 1)] := (fr46 y (by omega) (by omega) (by omega) (by omega)).trans e10
        have e12 : S1 pl = oO 5 [.ref (pl + 1), .ref (pl + 2), .ref (pl + 3), .int (iI nH), .int (iI pHi), .int (iI pWi), .int (iI pLp), .int (iI pBk), .int (iI pHp)] := (fS1 pl (by omega)).trans hp
        have e13 : S6 pl = oO 5 [.ref (pl + 1), .ref (pl + 2), .ref (pl + 3), .int (iI nH), .int (iI pHi), .int (iI pWi), .int (iI pLp), .int (iI pBk), .int (iI pHp)] := (fS6 pl (by omega)).trans e12
        have e14 : S7 pl = oO 5 [.ref (pl + 1), .ref (pl + 2), .ref (pl + 3), .int (iI nH), .int (iI pHi), .int (iI pWi), .int (iI pLp), .int (iI pBk), .int (iI pHp)] := (fr46 pl (by omega) (by omega) (by omega) (by omega)).trans e13
        have e15 : S1 (pl + 1) = oI g 8 ln := (fS1 (pl + 1) (by omega)).trans hln
        have e16 : S6 (pl + 1) = oI g 8 ln := (fS6 (pl + 1) (by omega)).trans e15
        have e17 : S7 (pl + 1) = oI g 8 ln := (fr46 (pl + 1) (by omega) (by omega) (by omega) (by omega)).trans e16
        have e18 : S1 (pl + 2) = oI g 8 br := (fS1 (pl + 2) (by omega)).trans hbr
        have e19 : S6 (pl + 2) = oI g 8 br := (fS6 (pl + 2) (by omega)).trans e18
        have e20 : S7 (pl + 2) = oI g 8 br := (fr46 (pl + 2) (by omega) (by omega) (by omega) (by omega)).trans e19
        refine nn_Vp (As := [.int (iI xp), .ref a]) (st := []) hc hw e11 rfl (c_X4_endingAt l g  e11 e14 e17 e20 hc46_0 hc46_1 (by omega) (rP) (hks) (by omega) (by omega) (by omega)) (cwV 2 hc.2.2.2.2 gX4_fill_X4_endingAt rfl rfl rfl (by decide +kernel) ⟨Nat.le_of_ble_eq_true rfl, Nat.le_of_ble_eq_true rfl⟩) rfl hl.1 rfl (Nat.le_of_ble_eq_true rfl) ⟨Nat.le_of_ble_eq_true rfl, Nat.le_of_ble_eq_true rfl⟩ dX4_fill_67 ?_
        refine W.eq (g2 := F0 m 70 ls [.int (iI (lstI (pE ln br ks fl (rmF pWi pHp xf) xp) nH.toNat))]) rfl ?_
        refine nn_name (fun xe exe => ?_)
        refine lv_istore (lv' := [(8, .int (iI xe)), (7, .int (iI xp)), (6, .int (iI k)), (0, .ref y), (1, .ref a), (2, .int (iI fl)), (3, .ref lf), (4, .ref bl), (5, .int (iI xf))]) hc.1 hc.2.1 dX4_fill_70 hl (by decide) rfl (fun ls hl => ?_)
        have hre := lstI_r (pE ln br ks fl (rmF pWi pHp xf) xp) nH.toNat
        have hlE : lstI (pE ln br ks fl (rmF pWi pHp (dF + dG)) (tot acc)) nH.toNat = xe := by rw [← hxp, ← hxR, exe]
        refine lv_iload hc.1 hc.2.1 dX4_fill_72 (lv_at hl 0 rfl) ?_
        refine nn_if_lt hc dX4_fill_74 (tgt := 102) (by decide) (by omega) (fun c21 => ?_) (fun c21 => ?_)
        · have hb1 : ∀ i : Nat, i < nH.toNat → 1 ≤ br i := fun i hi => by have := rP i (by omega); omega
          obtain ⟨x, rr, hp1, hl2, hl3⟩ := layG_step (f := 59 - acc.length) (by rw [show 59 - acc.length + 1 = 60 - acc.length by omega]; exact hly) (by omega)
          have hx := pj_fits (R := rmF pWi pHp (dF + dG)) hb1 (by omega) hp1
          refine lv_aload_n hc.1 hc.2.1 dX4_fill_102 rfl (lv_at hl 3 rfl) ?_
          refine lv_aload_n hc.1 hc.2.1 dX4_fill_103 rfl (lv_at hl 4 rfl) ?_
          refine lv_iload hc.1 hc.2.1 dX4_fill_104 (lv_at hl 1 rfl) ?_
          refine lv_aload hc.1 hc.2.1 dX4_fill_106 (lv_at hl 7 rfl) ?_
          have e22 : S1 bl = oO 3 [.ref (bl + 1), .ref (bl + 2), .int (iI dL), .int (iI dF), .int (iI dG), .int (iI dR), .int (iI dZ), .int (iI dW), .int (iI dU)] := (fS1 bl (by omega)).trans hb
          have e23 : S6 bl = oO 3 [.ref (bl + 1), .ref (bl + 2), .int (iI dL), .int (iI dF), .int (iI dG), .int (iI dR), .int (iI dZ), .int (iI dW), .int (iI dU)] := (fS6 bl (by omega)).trans e22
          have e24 : S7 bl = oO 3 [.ref (bl + 1), .ref (bl + 2), .int (iI dL), .int (iI dF), .int (iI dG), .int (iI dR), .int (iI dZ), .int (iI dW), .int (iI dU)] := (fr46 bl (by omega) (by omega) (by omega) (by omega)).trans e23
          have e25 : S1 (bl + 2) = oI g 60 ed := (fS1 (bl + 2) (by omega)).trans hed
          have e26 : S6 (bl + 2) = oI g 60 ed := (fS6 (bl + 2) (by omega)).trans e25
          have e27 : S7 (bl + 2) = oI g 60 ed := (fr46 (bl + 2) (by omega) (by omega) (by omega) (by omega)).trans e26
          refine nn_Vs (As := [.ref a, .int (iI xp), .ref bl]) (st := []) hc hw e11 rfl (c_X4_putWithJoint_yes l g  e11 e14 e17 e20 hc46_0 hc46_1 hc46_2 hc46_3 e24 e27 (by omega) (rP) (hks) (by omega) (by omega) (red) (by omega) (by omega) (by omega) (by omega) (by rw [hxp]; exact hp1)) (cwV 3 hc.2.2.2.2 gX4_fill_X4_putWithJoint rfl rfl rfl (by decide +kernel) ⟨Nat.le_of_ble_eq_true rfl, Nat.le_of_ble_eq_true rfl⟩) rfl hl.1 rfl (Nat.le_of_ble_eq_true rfl) ⟨Nat.le_of_ble_eq_true rfl, Nat.le_of_ble_eq_true rfl⟩ dX4_fill_108 (fun vr n1 S28 H locs qS28 hw => ?_)
          obtain ⟨rfl, rfl, hS28_0, hS28_1, hS28_2, hS28_3, fS28⟩ := qS28
          refine W.eq (g2 := F0 m 111 ls [.int (iI 1)]) rfl ?_
          refine nn_if_ne hc dX4_fill_111 (tgt := 116) (by decide) (by decide) (fun c29 => ?_) (fun c29 => ?_)
          · refine nn_iinc (lv' := [(6, .int (iI (k + 1))), (8, .int (iI xe)), (7, .int (iI xp)), (0, .ref y), (1, .ref a), (2, .int (iI fl)), (3, .ref lf), (4, .ref bl), (5, .int (iI xf))]) hc dX4_fill_116 hl (k0 := 2) rfl (by decide) rfl (fun ls hl => ?_)
            refine lv_goto hc.1 hc.2.1 dX4_fill_119 (tgt := 46) (by decide) ?_
            exact ih46 (k + 1) (va_up ks x.1 (ks x.1 - 1)) (va_up kh k.toNat (x.1 : Int)) (va_up ke k.toNat ((if 0 < k ∧ k ≤ 60 then ke (k - 1).toNat else 0) + x.2)) (kW + (if x.2 < br x.1 then (br x.1 - x.2) * fl else 0)) (kU + (if x.2 < br x.1 then 1 else 0)) (acc ++ [x]) rr S28 _ _ _ (by rw [tot_snoc acc x.1 x.2, List.length_append]; simp only [List.length_cons, List.length_nil]; omega) (by rw [tot_snoc acc x.1 x.2, List.length_append, show 60 - (acc.length + [x].length) = 59 - acc.length by simp only [List.length_cons, List.length_nil]; omega]; exact hl3) (by rw [hsl, hl2, List.append_assoc]; rfl) (⟨by rw [wst_snoc br fl acc x.1 x.2, hWU.1], by rw [cuts_snoc br acc x.1 x.2, hWU.2]⟩) (up_slH (by omega) rfl hhh) (up_slE (by omega) (by rw [start_tot hk.1.1 (by omega) hee]) hee) (fun i hi => by have h1 := hks i hi; unfold va_up; split; rename_i e2; rw [← e2]; rw [← e2] at hx; omega; exact h1) hS28_0 hS28_1 hS28_2 hS28_3 (fun b hb0 hb1 hb2 hb3 => ((fS28 b hb0 hb1 hb2 hb3)).trans (fr46 b hb0 hb1 hb2 hb3)) hw (by omega) (lv_sub hl [0, 3, 4, 5, 6, 7, 8] rfl)
          · exact absurd c29 (by decide)
        · have hPe := rP xe.toNat (by omega)
          have hl1 := layG_end (f := 59 - acc.length) (by rw [show 59 - acc.length + 1 = 60 - acc.length by omega]; exact hly) (by omega)
          have hsl2 : sl = acc ++ [(xe.toNat, rmF pWi pHp (dF + dG) - tot acc)] := by rw [hsl, hl1, hlE]
          refine lv_aload_n hc.1 hc.2.1 dX4_fill_77 rfl (lv_at hl 4 rfl) ?_
          refine lv_iload hc.1 hc.2.1 dX4_fill_78 (lv_at hl 0 rfl) ?_
          refine lv_aload_n hc.1 hc.2.1 dX4_fill_80 rfl (lv_at hl 3 rfl) ?_
          refine nn_get hc hw e11 hiX4 rfl 0 (by decide) rfl lk15 dX4_fill_81 ?_
          refine nn_get hc hw e14 hiX5 rfl 1 (by decide) rfl lk55 dX4_fill_84 ?_
          refine lv_iload hc.1 hc.2.1 dX4_fill_87 (lv_at hl 0 rfl) ?_
          refine nn_iald hc hw e20 (by omega) (by omega) dX4_fill_89 ?_
          refine lv_aload_n hc.1 hc.2.1 dX4_fill_90 rfl (lv_at hl 4 rfl) ?_
          refine nn_get hc hw hc46_1 hiX3 rfl 5 (by decide) rfl lk58 dX4_fill_91 ?_
          refine lv_iload hc.1 hc.2.1 dX4_fill_94 (lv_at hl 1 rfl) ?_
          refine nn_isub hc dX4_fill_96 ?_
          refine nn_Vs (As := [.int (iI xe), .int (iI (br xe.toNat)), .int (iI ((rmF pWi pHp xf) - xp))]) (st := []) hc hw hc46_1 rfl (c_X3_put l g  hc46_1 hc46_2 hc46_3 (by omega) (by omega) (by omega)) (cwV 3 hc.2.2.2.2 gX4_fill_X3_put rfl rfl rfl (by decide +kernel) ⟨Nat.le_of_ble_eq_true rfl, Nat.le_of_ble_eq_true rfl⟩) rfl hl.1 rfl (Nat.le_of_ble_eq_true rfl) ⟨Nat.le_of_ble_eq_true rfl, Nat.le_of_ble_eq_true rfl⟩ dX4_fill_97 (fun vr n1 S30 H locs qS30 hw => ?_)
          obtain ⟨rfl, rfl, hS30_0, hS30_1, hS30_2, fS30⟩ := qS30
          refine W.eq (g2 := F0 m 100 ls []) rfl ?_
          refine nn_iconst hc dX4_fill_100 ?_
          have e31 : S30 (y + 1) = oI g 8 ks := (fS30 (y + 1) (by omega) (by omega) (by omega)).trans hc46_0
          exact hret (some (.int (iI 1))) _ S30 _ _ _ _ hw (⟨_, _, _, rfl, rfl, e31, (by rw [hsl2, ← hxR, ← hxf, wst_snoc, cuts_snoc, List.length_append, ← hWU.1, ← hWU.2]; simp only [List.length_cons, List.length_nil]; rw [show (((acc.length + (0 + 1) : Nat)) : Int) = k + 1 by omega, ← hxp]; exact hS30_0), hS30_1, hS30_2, (by rw [hsl2]; exact up_slH (x := (xe.toNat, rmF pWi pHp (dF + dG) - tot acc)) (by omega) (by omega) hhh), (by rw [hsl2]; exact up_slE (x := (xe.toNat, rmF pWi pHp (dF + dG) - tot acc)) (by omega) (by rw [start_tot hk.1.1 (by omega) hee, hxp, hxR]) hee), fun b hb0 hb1 hb2 hb3 => ((((fS30 b hb1 hb2 hb3)).trans (fr46 b hb0 hb1 hb2 hb3)).trans (fS6 b hb1)).trans (fS1 b hb0)⟩) ⟨_, rfl, by first | rfl | exact nn_nb _, dX4_fill_101⟩
  have e32 : S6 (y + 1) = oI g 8 (va_cpy lv rs 0 0 8) := (fS6 (y + 1) (by omega)).trans hS1
  have e33 : S1 (a + 1) = oI g 60 hf := (fS1 (a + 1) (by omega)).trans hhf
  have e34 : S6 (a + 1) = oI g 60 hf := (fS6 (a + 1) (by omega)).trans e33
  have e35 : S1 (a + 2) = oI g 60 eo := (fS1 (a + 2) (by omega)).trans heo
  have e36 : S6 (a + 2) = oI g 60 eo := (fS6 (a + 2) (by omega)).trans e35
  exact lab46 _ 0 (va_cpy lv rs 0 0 8) hf eo 0 0 ([]) sl S6 _ _ _ (⟨⟨rfl, by decide, by decide⟩, Int.le_refl 0, by have := rmF_ge pWi pHp (dF + dG); show (0 : Int) < _; omega⟩) ((layG_congr 60 _ lv 0 (fun i hi => cpy8 (by omega))).trans hlay) (rfl) (⟨rfl, rfl⟩) (fun i hi => absurd hi (Nat.not_lt_zero i)) (fun i hi => absurd hi (Nat.not_lt_zero i)) (fun i hi => by rw [cpy8 (by omega)]; exact rV i hi) e32 hS6_0 e34 e36 (fun b _ _ _ _ => rfl) hw (Nat.lt_succ_self _) (lv_sub hl [0, 2, 3, 4, 5, 6, 1] rfl)

set_option maxHeartbeats 4000000 in
set_option maxRecDepth 100000 in
theorem c_X4_fill_no (l : Launch) (g : gG) {n : Nat} {S : Nat → gE} {y : Nat} {pl : Nat} {nH pHi pWi pLp pBk pHp : Int} {ln br rs : Nat → Int} {a : Nat} {cL cF cG cR cZ cW cU : Int} {bl : Nat} {dL dF dG dR dZ dW dU : Int} {ed : Nat → Int} {hf eo lv : Nat → Int} {lf : Nat} {fl : Int} (hy : S y = oO 4 [.ref pl, .ref (y + 1)]) (hp : S pl = oO 5 [.ref (pl + 1), .ref (pl + 2), .ref (pl + 3), .int (iI nH), .int (iI pHi), .int (iI pWi), .int (iI pLp), .int (iI pBk), .int (iI pHp)]) (hln : S (pl + 1) = oI g 8 ln) (hbr : S (pl + 2) = oI g 8 br) (hrs : S (y + 1) = oI g 8 rs) (ha : S a = oO 3 [.ref (a + 1), .ref (a + 2), .int (iI cL), .int (iI cF), .int (iI cG), .int (iI cR), .int (iI cZ), .int (iI cW), .int (iI cU)]) (hhf : S (a + 1) = oI g 60 hf) (heo : S (a + 2) = oI g 60 eo) (hb : S bl = oO 3 [.ref (bl + 1), .ref (bl + 2), .int (iI dL), .int (iI dF), .int (iI dG), .int (iI dR), .int (iI dZ), .int (iI dW), .int (iI dU)]) (hed : S (bl + 2) = oI g 60 ed) (hlf : S lf = oI g 8 lv) (rH : 0 ≤ nH ∧ nH ≤ 8) (rP : ∀ i : Nat, (i : Int) < nH → (20 ≤ ln i ∧ ln i ≤ 60) ∧ (10 ≤ br i ∧ br i ≤ 60)) (rV : ∀ i : Nat, (i : Int) < nH → 0 ≤ lv i ∧ lv i ≤ 1000000) (rZb : 0 ≤ dZ ∧ dZ ≤ 60) (red : ∀ k : Nat, (k : Int) < dZ - 1 → -1000000 ≤ ed k ∧ ed k ≤ 1000000) (rbk : 0 ≤ pBk ∧ pBk ≤ 1000000) (rffl : 20 ≤ fl ∧ fl ≤ 60) (rlp : 0 ≤ pLp ∧ pLp ≤ 10) (rwi : 0 ≤ pWi ∧ pWi ≤ 1000) (rft : 0 ≤ dF + dG ∧ dF + dG ≤ 1000) (rhp : 0 ≤ pHp * (dF + dG) ∧ pHp * (dF + dG) ≤ 1000000) (hd : ((a + 3 ≤ y ∨ y + 2 ≤ a) ∧ (a + 3 ≤ pl ∨ pl + 4 ≤ a) ∧ (a + 3 ≤ bl ∨ bl + 3 ≤ a)) ∧ (y + 2 ≤ pl ∨ pl + 4 ≤ y) ∧ (y + 2 ≤ bl ∨ bl + 3 ≤ y)) (hdl : (lf < a ∨ a + 3 ≤ lf) ∧ lf ≠ y + 1) (hlay : layG nH.toNat ln br fl (rmF pWi pHp (dF + dG)) ed pBk (dZ - 1).toNat 60 lv 0 = none) : g_Cs l yX4_fill wsX4_fill { frames := 5, cells := 0, slots := 0, locals := 106 } g [.ref y, .ref a, .int (iI fl), .ref lf, .ref bl] n S (fun vr n1 S1 => ∃ r1 : Nat → Int, ∃ z1 : Int, ∃ w1 : Int, ∃ u1 : Int, ∃ h1 : Nat → Int, ∃ e1 : Nat → Int, vr = some (.int (iI 0)) ∧ n = n1 ∧ S1 (y + 1) = oI g 8 r1 ∧ S1 a = oO 3 [.ref (a + 1), .ref (a + 2), .int (iI fl), .int (iI (dF + dG)), .int (iI ((fl - pLp) / 2)), .int (iI (rmF pWi pHp (dF + dG))), .int (iI z1), .int (iI w1), .int (iI u1)] ∧ S1 (a + 1) = oI g 60 h1 ∧ S1 (a + 2) = oI g 60 e1 ∧ (∀ b, b ≠ (y + 1) → b ≠ a → b ≠ (a + 1) → b ≠ (a + 2) → S1 b = S b)) 0 0 := by
  refine g_Cs.of (cc := cX4_fill) (maxL := 9) (ret := (some .boolean)) (by decide) rfl (Nat.le_of_ble_eq_true rfl) ?_
  intro pp ee s m below meth c Q H locs ls hc hnm hw hl hret
  have hl : lv_has ls 9 [(0, .ref y), (1, .ref a), (2, .int (iI fl)), (3, .ref lf), (4, .ref bl)] := hl
  have hiX4 : ∀ w ∈ u_ws RX4 TX4 2, w ∈ wsX4_fill := by decide +kernel
  have hiX3 : ∀ w ∈ u_ws RX3 TX3 9, w ∈ wsX4_fill := by decide +kernel
  have lk9 : Cond.fieldLink RX4 9 "RoofCourses$Layer" "rest" "[I" ∈ wsX4_fill := by decide +kernel
  have lkK19 : Cond.methodLink RX4 19 arraycopyName ∈ wsX4_fill := by decide +kernel
  have lkKn : Cond.native arraycopyName ∈ wsX4_fill := by decide +kernel
  have lkKs : Cond.static arraycopyName ∈ wsX4_fill := by decide +kernel
  have lkKi : Cond.initialized "java/lang/System" ∈ wsX4_fill := by decide +kernel
  have lk15 : Cond.fieldLink RX4 15 "RoofCourses$Layer" "plan" "LRoofCourses$Plan;" ∈ wsX4_fill := by decide +kernel
  have lk44 : Cond.fieldLink RX4 44 "RoofCourses$Course" "size" "I" ∈ wsX4_fill := by decide +kernel
  refine lv_aload_n hc.1 hc.2.1 dX4_fill_0 rfl (lv_at hl 3 rfl) ?_
  refine nn_iconst hc dX4_fill_1 ?_
  refine lv_aload_n hc.1 hc.2.1 dX4_fill_2 rfl (lv_at hl 0 rfl) ?_
  refine nn_get hc hw hy hiX4 rfl 1 (by decide) rfl lk9 dX4_fill_3 ?_
  refine nn_iconst hc dX4_fill_6 ?_
  refine nn_bipush hc dX4_fill_7 (by decide +kernel) ?_
  refine nn_copy hc hl.1 hw lkK19 lkKn lkKs lkKi hlf hrs (by omega) (by decide) (by decide) (Nat.le_of_ble_eq_true rfl) (Nat.le_of_ble_eq_true rfl) dX4_fill_9 (fun S1 H locs hS1 fS1 hw => ?_)
  have hS1 : S1 (y + 1) = oI g 8 (va_cpy lv rs 0 0 8) := hS1
  refine lv_aload hc.1 hc.2.1 dX4_fill_12 (lv_at hl 4 rfl) ?_
  have e2 : S1 bl = oO 3 [.ref (bl + 1), .ref (bl + 2), .int (iI dL), .int (iI dF), .int (iI dG), .int (iI dR), .int (iI dZ), .int (iI dW), .int (iI dU)] := (fS1 bl (by omega)).trans hb
  refine nn_Vp (As := []) (st := []) hc hw e2 rfl (c_X3_head l g  e2 ) (cwV 0 hc.2.2.2.2 gX4_fill_X3_head rfl rfl rfl (by decide +kernel) ⟨Nat.le_of_ble_eq_true rfl, Nat.le_of_ble_eq_true rfl⟩) rfl hl.1 rfl (Nat.le_of_ble_eq_true rfl) ⟨Nat.le_of_ble_eq_true rfl, Nat.le_of_ble_eq_true rfl⟩ dX4_fill_14 ?_
  refine W.eq (g2 := F0 m 17 ls [.int (iI (dF + dG))]) rfl ?_
  refine nn_name (fun xf exf => ?_)
  refine lv_istore (lv' := [(5, .int (iI xf)), (0, .ref y), (1, .ref a), (2, .int (iI fl)), (3, .ref lf), (4, .ref bl)]) hc.1 hc.2.1 dX4_fill_17 hl (by decide) rfl (fun ls hl => ?_)
  have hxf : xf = dF + dG := exf
  refine lv_aload_n hc.1 hc.2.1 dX4_fill_19 rfl (lv_at hl 2 rfl) ?_
  refine lv_iload_n hc.1 hc.2.1 dX4_fill_20 rfl (lv_at hl 3 rfl) ?_
  refine lv_iload hc.1 hc.2.1 dX4_fill_21 (lv_at hl 0 rfl) ?_
  refine lv_aload_n hc.1 hc.2.1 dX4_fill_23 rfl (lv_at hl 1 rfl) ?_
  have e3 : S1 y = oO 4 [.ref pl, .ref (y + 1)] := (fS1 y (by omega)).trans hy
  refine nn_get hc hw e3 hiX4 rfl 0 (by decide) rfl lk15 dX4_fill_24 ?_
  refine lv_iload_n hc.1 hc.2.1 dX4_fill_27 rfl (lv_at hl 3 rfl) ?_
  have e4 : S1 pl = oO 5 [.ref (pl + 1), .ref (pl + 2), .ref (pl + 3), .int (iI nH), .int (iI pHi), .int (iI pWi), .int (iI pLp), .int (iI pBk), .int (iI pHp)] := (fS1 pl (by omega)).trans hp
  refine nn_Vp (As := [.int (iI fl)]) (st := [.int (iI xf), .int (iI fl), .ref a]) hc hw e4 rfl (c_X5_gaugeOf l g  e4 (by omega)) (cwV 1 hc.2.2.2.2 gX4_fill_X5_gaugeOf rfl rfl rfl (by decide +kernel) ⟨Nat.le_of_ble_eq_true rfl, Nat.le_of_ble_eq_true rfl⟩) rfl hl.1 rfl (Nat.le_of_ble_eq_true rfl) ⟨Nat.le_of_ble_eq_true rfl, Nat.le_of_ble_eq_true rfl⟩ dX4_fill_28 ?_
  refine W.eq (g2 := F0 m 31 ls [.int (iI ((fl - pLp) / 2)), .int (iI xf), .int (iI fl), .ref a]) rfl ?_
  refine lv_aload_n hc.1 hc.2.1 dX4_fill_31 rfl (lv_at hl 1 rfl) ?_
  refine nn_get hc hw e3 hiX4 rfl 0 (by decide) rfl lk15 dX4_fill_32 ?_
  refine lv_iload hc.1 hc.2.1 dX4_fill_35 (lv_at hl 0 rfl) ?_
  refine nn_Vp (As := [.int (iI xf)]) (st := [.int (iI ((fl - pLp) / 2)), .int (iI xf), .int (iI fl), .ref a]) hc hw e4 rfl (c_X5_roomAt l g  e4 (by rw [exf]; omega) (by omega)) (cwV 1 hc.2.2.2.2 gX4_fill_X5_roomAt rfl rfl rfl (by decide +kernel) ⟨Nat.le_of_ble_eq_true rfl, Nat.le_of_ble_eq_true rfl⟩) rfl hl.1 rfl (Nat.le_of_ble_eq_true rfl) ⟨Nat.le_of_ble_eq_true rfl, Nat.le_of_ble_eq_true rfl⟩ dX4_fill_37 ?_
  refine W.eq (g2 := F0 m 40 ls [.int (iI (rmF pWi pHp xf)), .int (iI ((fl - pLp) / 2)), .int (iI xf), .int (iI fl), .ref a]) rfl ?_
  have e5 : S1 a = oO 3 [.ref (a + 1), .ref (a + 2), .int (iI cL), .int (iI cF), .int (iI cG), .int (iI cR), .int (iI cZ), .int (iI cW), .int (iI cU)] := (fS1 a (by omega)).trans ha
  refine nn_Vs (As := [.int (iI fl), .int (iI xf), .int (iI ((fl - pLp) / 2)), .int (iI (rmF pWi pHp xf))]) (st := []) hc hw e5 rfl (c_X3_begin l g  e5 ) (cwV 4 hc.2.2.2.2 gX4_fill_X3_begin rfl rfl rfl (by decide +kernel) ⟨Nat.le_of_ble_eq_true rfl, Nat.le_of_ble_eq_true rfl⟩) rfl hl.1 rfl (Nat.le_of_ble_eq_true rfl) ⟨Nat.le_of_ble_eq_true rfl, Nat.le_of_ble_eq_true rfl⟩ dX4_fill_40 (fun vr n1 S6 H locs qS6 hw => ?_)
  obtain ⟨rfl, rfl, hS6_0, fS6⟩ := qS6
  refine W.eq (g2 := F0 m 43 ls []) rfl ?_
  refine nn_iconst hc dX4_fill_43 ?_
  refine lv_istore (lv' := [(6, .int (iI 0)), (5, .int (iI xf)), (0, .ref y), (1, .ref a), (2, .int (iI fl)), (3, .ref lf), (4, .ref bl)]) hc.1 hc.2.1 dX4_fill_44 hl (by decide) rfl (fun ls hl => ?_)
  have lab46 : ∀ (fu46 : Nat) (k : Int) (ks : Nat → Int) (kh : Nat → Int) (ke : Nat → Int) (kW : Int) (kU : Int) (acc : sL) (S7 : Nat → gE) (H : Heap) (locs : List Loc) (ls : Array Slot), ((k = acc.length ∧ 0 ≤ k ∧ k ≤ 60) ∧ (0 ≤ tot acc ∧ tot acc < rmF pWi pHp (dF + dG))) → (layG nH.toNat ln br fl (rmF pWi pHp (dF + dG)) ed pBk (dZ - 1).toNat (60 - acc.length) ks (tot acc) = none) → (∀ i : Nat, i < acc.length → ke i = slE acc i) → (∀ i : Nat, (i : Int) < nH → 0 ≤ ks i ∧ ks i ≤ 1000000) → S7 (y + 1) = oI g 8 ks → S7 a = oO 3 [.ref (a + 1), .ref (a + 2), .int (iI fl), .int (iI xf), .int (iI ((fl - pLp) / 2)), .int (iI (rmF pWi pHp xf)), .int (iI k), .int (iI kW), .int (iI kU)] → S7 (a + 1) = oI g 60 kh → S7 (a + 2) = oI g 60 ke → (∀ b, b ≠ (y + 1) → b ≠ a → b ≠ (a + 1) → b ≠ (a + 2) → S7 b = S6 b) → g_W g n S7 s H locs → (60 - k).toNat < fu46 → lv_has ls 9 [(6, .int (iI k)), (0, .ref y), (1, .ref a), (2, .int (iI fl)), (3, .ref lf), (4, .ref bl), (5, .int (iI xf))] → W pp l ee ({ frames := 5, cells := 0, slots := 0, locals := 106 } : Room) s m ([.ref y, .ref a, .int (iI fl), .ref lf, .ref bl] : List Value).toArray below meth c H locs 0 0 Q (F0 m 46 ls []) := by
    intro fu46
    induction fu46 with
    | zero =>
      intro k ks kh ke kW kU acc S7 H locs ls hk hly hee hks hc46_0 hc46_1 hc46_2 hc46_3 fr46 hw hmeas hl
      exact absurd hmeas (Nat.not_lt_zero _)
    | succ fu46 ih46 =>
      intro k ks kh ke kW kU acc S7 H locs ls hk hly hee hks hc46_0 hc46_1 hc46_2 hc46_3 fr46 hw hmeas hl
      refine lv_iload hc.1 hc.2.1 dX4_fill_46 (lv_at hl 0 rfl) ?_
      refine nn_bipush hc dX4_fill_48 (by decide +kernel) ?_
      refine nn_icmp_ge hc dX4_fill_50 (tgt := 122) (by decide) (by omega) (by decide) (fun c8 => ?_) (fun c8 => ?_)
      · have hxR : rmF pWi pHp xf = rmF pWi pHp (dF + dG) := by rw [hxf]
        refine nn_iconst hc dX4_fill_122 ?_
        exact hret (some (.int (iI 0))) _ S7 _ _ _ _ hw (⟨_, _, _, _, _, _, rfl, rfl, hc46_0, (by rw [← hxR, ← hxf]; exact hc46_1), hc46_2, hc46_3, fun b hb0 hb1 hb2 hb3 => (((fr46 b hb0 hb1 hb2 hb3)).trans (fS6 b hb1)).trans (fS1 b hb0)⟩) ⟨_, rfl, by first | rfl | exact nn_nb _, dX4_fill_123⟩
      · have hxp0 := start_tot hk.1.1 (by omega) hee
        obtain ⟨hz1, hz2⟩ := layG_no (f := 59 - acc.length) (by rw [show 59 - acc.length + 1 = 60 - acc.length by omega]; exact hly)
        refine lv_aload_n hc.1 hc.2.1 dX4_fill_53 rfl (lv_at hl 2 rfl) ?_
        refine lv_aload_n hc.1 hc.2.1 dX4_fill_54 rfl (lv_at hl 2 rfl) ?_
        refine nn_get hc hw hc46_1 hiX3 rfl 6 (by decide) rfl lk44 dX4_fill_55 ?_
        refine nn_Vp (As := [.int (iI k)]) (st := []) hc hw hc46_1 rfl (c_X3_startOf l g  hc46_1 hc46_3 (by omega)) (cwV 1 hc.2.2.2.2 gX4_fill_X3_startOf rfl rfl rfl (by decide +kernel) ⟨Nat.le_of_ble_eq_true rfl, Nat.le_of_ble_eq_true rfl⟩) rfl hl.1 rfl (Nat.le_of_ble_eq_true rfl) ⟨Nat.le_of_ble_eq_true rfl, Nat.le_of_ble_eq_true rfl⟩ dX4_fill_58 ?_
        refine W.eq (g2 := F0 m 61 ls [.int (iI (if 0 < k ∧ k ≤ 60 then ke (k - 1).toNat else 0))]) rfl ?_
        refine nn_name (fun xp exp => ?_)
        refine lv_istore (lv' := [(7, .int (iI xp)), (6, .int (iI k)), (0, .ref y), (1, .ref a), (2, .int (iI fl)), (3, .ref lf), (4, .ref bl), (5, .int (iI xf))]) hc.1 hc.2.1 dX4_fill_61 hl (by decide) rfl (fun ls hl => ?_)
        have hxp : xp = tot acc := exp.trans hxp0
        have hRge := rmF_ge pWi pHp (dF + dG)
        have hRle : rmF pWi pHp xf ≤ 1000 := by unfold rmF; rw [hxf]; split <;> omega
        have hxR : rmF pWi pHp xf = rmF pWi pHp (dF + dG) := by rw [hxf]
        refine lv_aload_n hc.1 hc.2.1 dX4_fill_63 rfl (lv_at hl 2 rfl) ?_
        refine lv_iload hc.1 hc.2.1 dX4_fill_64 (lv_at hl 0 rfl) ?_
        refine lv_aload_n hc.1 hc.2.1 dX4_fill_66 rfl (lv_at hl 3 rfl) ?_
        have e9 : S1 y = oO 4 [.ref pl, .ref (y + 1)] := (fS1 y (by omega)).trans hy
        have e10 : S6 y = oO 4 [.ref pl, .ref (y + 1)] := (fS6 y (by omega)).trans e9
        have e11 : S7 y = oO 4 [.ref pl, .ref (y + 1)] := (fr46 y (by omega) (by omega) (by omega) (by omega)).trans e10
        have e12 : S1 pl = oO 5 [.ref (pl + 1), .ref (pl + 2), .ref (pl + 3), .int (iI nH), .int (iI pHi), .int (iI pWi), .int (iI pLp), .int (iI pBk), .int (iI pHp)] := (fS1 pl (by omega)).trans hp
        have e13 : S6 pl = oO 5 [.ref (pl + 1), .ref (pl + 2), .ref (pl + 3), .int (iI nH), .int (iI pHi), .int (iI pWi), .int (iI pLp), .int (iI pBk), .int (iI pHp)] := (fS6 pl (by omega)).trans e12
        have e14 : S7 pl = oO 5 [.ref (pl + 1), .ref (pl + 2), .ref (pl + 3), .int (iI nH), .int (iI pHi), .int (iI pWi), .int (iI pLp), .int (iI pBk), .int (iI pHp)] := (fr46 pl (by omega) (by omega) (by omega) (by omega)).trans e13
        have e15 : S1 (pl + 1) = oI g 8 ln := (fS1 (pl + 1) (by omega)).trans hln
        have e16 : S6 (pl + 1) = oI g 8 ln := (fS6 (pl + 1) (by omega)).trans e15
        have e17 : S7 (pl + 1) = oI g 8 ln := (fr46 (pl + 1) (by omega) (by omega) (by omega) (by omega)).trans e16
        have e18 : S1 (pl + 2) = oI g 8 br := (fS1 (pl + 2) (by omega)).trans hbr
        have e19 : S6 (pl + 2) = oI g 8 br := (fS6 (pl + 2) (by omega)).trans e18
        have e20 : S7 (pl + 2) = oI g 8 br := (fr46 (pl + 2) (by omega) (by omega) (by omega) (by omega)).trans e19
        refine nn_Vp (As := [.int (iI xp), .ref a]) (st := []) hc hw e11 rfl (c_X4_endingAt l g  e11 e14 e17 e20 hc46_0 hc46_1 (by omega) (rP) (hks) (by omega) (by omega) (by omega)) (cwV 2 hc.2.2.2.2 gX4_fill_X4_endingAt rfl rfl rfl (by decide +kernel) ⟨Nat.le_of_ble_eq_true rfl, Nat.le_of_ble_eq_true rfl⟩) rfl hl.1 rfl (Nat.le_of_ble_eq_true rfl) ⟨Nat.le_of_ble_eq_true rfl, Nat.le_of_ble_eq_true rfl⟩ dX4_fill_67 ?_
        refine W.eq (g2 := F0 m 70 ls [.int (iI (lstI (pE ln br ks fl (rmF pWi pHp xf) xp) nH.toNat))]) rfl ?_
        refine nn_name (fun xe exe => ?_)
        refine lv_istore (lv' := [(8, .int (iI xe)), (7, .int (iI xp)), (6, .int (iI k)), (0, .ref y), (1, .ref a), (2, .int (iI fl)), (3, .ref lf), (4, .ref bl), (5, .int (iI xf))]) hc.1 hc.2.1 dX4_fill_70 hl (by decide) rfl (fun ls hl => ?_)
        have hre := lstI_r (pE ln br ks fl (rmF pWi pHp xf) xp) nH.toNat
        have hlE : lstI (pE ln br ks fl (rmF pWi pHp (dF + dG)) (tot acc)) nH.toNat = xe := by rw [← hxp, ← hxR, exe]
        refine lv_iload hc.1 hc.2.1 dX4_fill_72 (lv_at hl 0 rfl) ?_
        refine nn_if_lt hc dX4_fill_74 (tgt := 102) (by decide) (by omega) (fun c21 => ?_) (fun c21 => ?_)
        · have hb1 : ∀ i : Nat, i < nH.toNat → 1 ≤ br i := fun i hi => by have := rP i (by omega); omega
          refine lv_aload_n hc.1 hc.2.1 dX4_fill_102 rfl (lv_at hl 3 rfl) ?_
          refine lv_aload_n hc.1 hc.2.1 dX4_fill_103 rfl (lv_at hl 4 rfl) ?_
          refine lv_iload hc.1 hc.2.1 dX4_fill_104 (lv_at hl 1 rfl) ?_
          refine lv_aload hc.1 hc.2.1 dX4_fill_106 (lv_at hl 7 rfl) ?_
          rcases hz2 with hp1 | ⟨x, hp1, hl3⟩
          · have e22 : S1 bl = oO 3 [.ref (bl + 1), .ref (bl + 2), .int (iI dL), .int (iI dF), .int (iI dG), .int (iI dR), .int (iI dZ), .int (iI dW), .int (iI dU)] := (fS1 bl (by omega)).trans hb
            have e23 : S6 bl = oO 3 [.ref (bl + 1), .ref (bl + 2), .int (iI dL), .int (iI dF), .int (iI dG), .int (iI dR), .int (iI dZ), .int (iI dW), .int (iI dU)] := (fS6 bl (by omega)).trans e22
            have e24 : S7 bl = oO 3 [.ref (bl + 1), .ref (bl + 2), .int (iI dL), .int (iI dF), .int (iI dG), .int (iI dR), .int (iI dZ), .int (iI dW), .int (iI dU)] := (fr46 bl (by omega) (by omega) (by omega) (by omega)).trans e23
            have e25 : S1 (bl + 2) = oI g 60 ed := (fS1 (bl + 2) (by omega)).trans hed
            have e26 : S6 (bl + 2) = oI g 60 ed := (fS6 (bl + 2) (by omega)).trans e25
            have e27 : S7 (bl + 2) = oI g 60 ed := (fr46 (bl + 2) (by omega) (by omega) (by omega) (by omega)).trans e26
            refine nn_Vp (As := [.ref a, .int (iI xp), .ref bl]) (st := []) hc hw e11 rfl (c_X4_putWithJoint_no l g  e11 e14 e17 e20 hc46_0 hc46_1 e24 e27 (by omega) (rP) (hks) (by omega) (by omega) (red) (by omega) (by omega) (by rw [hxp]; exact hp1)) (cwV 3 hc.2.2.2.2 gX4_fill_X4_putWithJoint rfl rfl rfl (by decide +kernel) ⟨Nat.le_of_ble_eq_true rfl, Nat.le_of_ble_eq_true rfl⟩) rfl hl.1 rfl (Nat.le_of_ble_eq_true rfl) ⟨Nat.le_of_ble_eq_true rfl, Nat.le_of_ble_eq_true rfl⟩ dX4_fill_108 ?_
            refine W.eq (g2 := F0 m 111 ls [.int (iI 0)]) rfl ?_
            refine nn_if_ne hc dX4_fill_111 (tgt := 116) (by decide) (by decide) (fun c28 => ?_) (fun c28 => ?_)
            · exact absurd c28 (by decide)
            · refine nn_iconst hc dX4_fill_114 ?_
              exact hret (some (.int (iI 0))) _ S7 _ _ _ _ hw (⟨_, _, _, _, _, _, rfl, rfl, hc46_0, (by rw [← hxR, ← hxf]; exact hc46_1), hc46_2, hc46_3, fun b hb0 hb1 hb2 hb3 => (((fr46 b hb0 hb1 hb2 hb3)).trans (fS6 b hb1)).trans (fS1 b hb0)⟩) ⟨_, rfl, by first | rfl | exact nn_nb _, dX4_fill_115⟩
          · have hx := pj_fits (R := rmF pWi pHp (dF + dG)) hb1 (by omega) hp1
            have e29 : S1 bl = oO 3 [.ref (bl + 1), .ref (bl + 2), .int (iI dL), .int (iI dF), .int (iI dG), .int (iI dR), .int (iI dZ), .int (iI dW), .int (iI dU)] := (fS1 bl (by omega)).trans hb
            have e30 : S6 bl = oO 3 [.ref (bl + 1), .ref (bl + 2), .int (iI dL), .int (iI dF), .int (iI dG), .int (iI dR), .int (iI dZ), .int (iI dW), .int (iI dU)] := (fS6 bl (by omega)).trans e29
            have e31 : S7 bl = oO 3 [.ref (bl + 1), .ref (bl + 2), .int (iI dL), .int (iI dF), .int (iI dG), .int (iI dR), .int (iI dZ), .int (iI dW), .int (iI dU)] := (fr46 bl (by omega) (by omega) (by omega) (by omega)).trans e30
            have e32 : S1 (bl + 2) = oI g 60 ed := (fS1 (bl + 2) (by omega)).trans hed
            have e33 : S6 (bl + 2) = oI g 60 ed := (fS6 (bl + 2) (by omega)).trans e32
            have e34 : S7 (bl + 2) = oI g 60 ed := (fr46 (bl + 2) (by omega) (by omega) (by omega) (by omega)).trans e33
            refine nn_Vs (As := [.ref a, .int (iI xp), .ref bl]) (st := []) hc hw e11 rfl (c_X4_putWithJoint_yes l g  e11 e14 e17 e20 hc46_0 hc46_1 hc46_2 hc46_3 e31 e34 (by omega) (rP) (hks) (by omega) (by omega) (red) (by omega) (by omega) (by omega) (by omega) (by rw [hxp]; exact hp1)) (cwV 3 hc.2.2.2.2 gX4_fill_X4_putWithJoint rfl rfl rfl (by decide +kernel) ⟨Nat.le_of_ble_eq_true rfl, Nat.le_of_ble_eq_true rfl⟩) rfl hl.1 rfl (Nat.le_of_ble_eq_true rfl) ⟨Nat.le_of_ble_eq_true rfl, Nat.le_of_ble_eq_true rfl⟩ dX4_fill_108 (fun vr n1 S35 H locs qS35 hw => ?_)
            obtain ⟨rfl, rfl, hS35_0, hS35_1, hS35_2, hS35_3, fS35⟩ := qS35
            refine W.eq (g2 := F0 m 111 ls [.int (iI 1)]) rfl ?_
            refine nn_if_ne hc dX4_fill_111 (tgt := 116) (by decide) (by decide) (fun c36 => ?_) (fun c36 => ?_)
            · refine nn_iinc (lv' := [(6, .int (iI (k + 1))), (8, .int (iI xe)), (7, .int (iI xp)), (0, .ref y), (1, .ref a), (2, .int (iI fl)), (3, .ref lf), (4, .ref bl), (5, .int (iI xf))]) hc dX4_fill_116 hl (k0 := 2) rfl (by decide) rfl (fun ls hl => ?_)
              refine lv_goto hc.1 hc.2.1 dX4_fill_119 (tgt := 46) (by decide) ?_
              exact ih46 (k + 1) (va_up ks x.1 (ks x.1 - 1)) (va_up kh k.toNat (x.1 : Int)) (va_up ke k.toNat ((if 0 < k ∧ k ≤ 60 then ke (k - 1).toNat else 0) + x.2)) (kW + (if x.2 < br x.1 then (br x.1 - x.2) * fl else 0)) (kU + (if x.2 < br x.1 then 1 else 0)) (acc ++ [x]) S35 _ _ _ (by rw [tot_snoc acc x.1 x.2, List.length_append]; simp only [List.length_cons, List.length_nil]; omega) (by rw [tot_snoc acc x.1 x.2, List.length_append, show 60 - (acc.length + [x].length) = 59 - acc.length by simp only [List.length_cons, List.length_nil]; omega]; exact hl3) (up_slE (by omega) (by rw [start_tot hk.1.1 (by omega) hee]) hee) (fun i hi => by have h1 := hks i hi; unfold va_up; split; rename_i e2; rw [← e2]; rw [← e2] at hx; omega; exact h1) hS35_0 hS35_1 hS35_2 hS35_3 (fun b hb0 hb1 hb2 hb3 => ((fS35 b hb0 hb1 hb2 hb3)).trans (fr46 b hb0 hb1 hb2 hb3)) hw (by omega) (lv_sub hl [0, 3, 4, 5, 6, 7, 8] rfl)
            · exact absurd c36 (by decide)
        · exfalso; omega
  have e37 : S6 (y + 1) = oI g 8 (va_cpy lv rs 0 0 8) := (fS6 (y + 1) (by omega)).trans hS1
  have e38 : S1 (a + 1) = oI g 60 hf := (fS1 (a + 1) (by omega)).trans hhf
  have e39 : S6 (a + 1) = oI g 60 hf := (fS6 (a + 1) (by omega)).trans e38
  have e40 : S1 (a + 2) = oI g 60 eo := (fS1 (a + 2) (by omega)).trans heo
  have e41 : S6 (a + 2) = oI g 60 eo := (fS6 (a + 2) (by omega)).trans e40
  exact lab46 _ 0 (va_cpy lv rs 0 0 8) hf eo 0 0 ([]) S6 _ _ _ (⟨⟨rfl, by decide, by decide⟩, Int.le_refl 0, by have := rmF_ge pWi pHp (dF + dG); show (0 : Int) < _; omega⟩) ((layG_congr 60 _ lv 0 (fun i hi => cpy8 (by omega))).trans hlay) (fun i hi => absurd hi (Nat.not_lt_zero i)) (fun i hi => by rw [cpy8 (by omega)]; exact rV i hi) e37 hS6_0 e39 e41 (fun b _ _ _ _ => rfl) hw (Nat.lt_succ_self _) (lv_sub hl [0, 2, 3, 4, 5, 6, 1] rfl)
end
