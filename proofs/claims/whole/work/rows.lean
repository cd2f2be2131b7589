section
-- ===== PART A: goes FIRST, ahead of the names: the tables' words, and 'selects' of the private methods out of them =====
/-- a private method of a class that the tables say can be made, by its rows of tables_1 -/
def lw_okq (q : MethodName × Nat) : Prop := (q.1.cls ≠ "java/lang/invoke/MethodHandle" ∧ q.1.cls ≠ "java/lang/invoke/VarHandle") ∧ Cond.instantiable q.1.cls q.2 ∈ tables_1 ∧ Cond.privateMethod q.1 ∈ tables_1 ∧ Cond.instanceMethod q.1 ∈ tables_1
theorem lw_p0 : lw_okq (⟨"BindingServer", "refresh", "()V"⟩, 9) := ⟨⟨by decide +kernel, by decide +kernel⟩, List.mem_of_getElem? (i := 15) (by decide +kernel), List.mem_of_getElem? (i := 326) (by decide +kernel), List.mem_of_getElem? (i := 327) (by decide +kernel)⟩
theorem lw_p1 : lw_okq (⟨"BindingServer$Tokens", "endLine", "(Z)V"⟩, 8) := ⟨⟨by decide +kernel, by decide +kernel⟩, List.mem_of_getElem? (i := 41) (by decide +kernel), List.mem_of_getElem? (i := 335) (by decide +kernel), List.mem_of_getElem? (i := 336) (by decide +kernel)⟩
theorem lw_p2 : lw_okq (⟨"BindingServer$Tokens", "add", "(III)V"⟩, 8) := ⟨⟨by decide +kernel, by decide +kernel⟩, List.mem_of_getElem? (i := 41) (by decide +kernel), List.mem_of_getElem? (i := 343) (by decide +kernel), List.mem_of_getElem? (i := 344) (by decide +kernel)⟩
theorem lw_p3 : lw_okq (⟨"BindingServer$Tokens", "beginLine", "(II)V"⟩, 8) := ⟨⟨by decide +kernel, by decide +kernel⟩, List.mem_of_getElem? (i := 41) (by decide +kernel), List.mem_of_getElem? (i := 351) (by decide +kernel), List.mem_of_getElem? (i := 352) (by decide +kernel)⟩
theorem lw_p4 : lw_okq (⟨"BindingServer$Tokens", "lastIndent", "()I"⟩, 8) := ⟨⟨by decide +kernel, by decide +kernel⟩, List.mem_of_getElem? (i := 41) (by decide +kernel), List.mem_of_getElem? (i := 355) (by decide +kernel), List.mem_of_getElem? (i := 356) (by decide +kernel)⟩
theorem lw_p5 : lw_okq (⟨"BindingServer$Tokens", "readOne", "(I)I"⟩, 8) := ⟨⟨by decide +kernel, by decide +kernel⟩, List.mem_of_getElem? (i := 41) (by decide +kernel), List.mem_of_getElem? (i := 359) (by decide +kernel), List.mem_of_getElem? (i := 360) (by decide +kernel)⟩
theorem lw_p6 : lw_okq (⟨"BindingServer$Tokens", "countOpen", "(I)V"⟩, 8) := ⟨⟨by decide +kernel, by decide +kernel⟩, List.mem_of_getElem? (i := 41) (by decide +kernel), List.mem_of_getElem? (i := 395) (by decide +kernel), List.mem_of_getElem? (i := 396) (by decide +kernel)⟩
theorem lw_p7 : lw_okq (⟨"BindingServer$Tokens", "endText", "()V"⟩, 8) := ⟨⟨by decide +kernel, by decide +kernel⟩, List.mem_of_getElem? (i := 41) (by decide +kernel), List.mem_of_getElem? (i := 402) (by decide +kernel), List.mem_of_getElem? (i := 403) (by decide +kernel)⟩
theorem lw_p8 : lw_okq (⟨"BindingServer$Parser", "begin", "()V"⟩, 13) := ⟨⟨by decide +kernel, by decide +kernel⟩, List.mem_of_getElem? (i := 162) (by decide +kernel), List.mem_of_getElem? (i := 410) (by decide +kernel), List.mem_of_getElem? (i := 411) (by decide +kernel)⟩
theorem lw_p9 : lw_okq (⟨"BindingServer$Parser", "advance", "()V"⟩, 13) := ⟨⟨by decide +kernel, by decide +kernel⟩, List.mem_of_getElem? (i := 162) (by decide +kernel), List.mem_of_getElem? (i := 422) (by decide +kernel), List.mem_of_getElem? (i := 423) (by decide +kernel)⟩
theorem lw_p10 : lw_okq (⟨"BindingServer$Parser", "statement", "(I)Z"⟩, 13) := ⟨⟨by decide +kernel, by decide +kernel⟩, List.mem_of_getElem? (i := 162) (by decide +kernel), List.mem_of_getElem? (i := 426) (by decide +kernel), List.mem_of_getElem? (i := 427) (by decide +kernel)⟩
theorem lw_p11 : lw_okq (⟨"BindingServer$Parser", "beginsCompound", "()Z"⟩, 13) := ⟨⟨by decide +kernel, by decide +kernel⟩, List.mem_of_getElem? (i := 162) (by decide +kernel), List.mem_of_getElem? (i := 430) (by decide +kernel), List.mem_of_getElem? (i := 431) (by decide +kernel)⟩
theorem lw_p12 : lw_okq (⟨"BindingServer$Parser", "compound", "(I)Z"⟩, 13) := ⟨⟨by decide +kernel, by decide +kernel⟩, List.mem_of_getElem? (i := 162) (by decide +kernel), List.mem_of_getElem? (i := 434) (by decide +kernel), List.mem_of_getElem? (i := 435) (by decide +kernel)⟩
theorem lw_p13 : lw_okq (⟨"BindingServer$Parser", "function", "(I)Z"⟩, 13) := ⟨⟨by decide +kernel, by decide +kernel⟩, List.mem_of_getElem? (i := 162) (by decide +kernel), List.mem_of_getElem? (i := 438) (by decide +kernel), List.mem_of_getElem? (i := 439) (by decide +kernel)⟩
theorem lw_p14 : lw_okq (⟨"BindingServer$Parser", "take", "(I)Z"⟩, 13) := ⟨⟨by decide +kernel, by decide +kernel⟩, List.mem_of_getElem? (i := 162) (by decide +kernel), List.mem_of_getElem? (i := 442) (by decide +kernel), List.mem_of_getElem? (i := 443) (by decide +kernel)⟩
theorem lw_p15 : lw_okq (⟨"BindingServer$Parser", "refuse", "(I)Z"⟩, 13) := ⟨⟨by decide +kernel, by decide +kernel⟩, List.mem_of_getElem? (i := 162) (by decide +kernel), List.mem_of_getElem? (i := 446) (by decide +kernel), List.mem_of_getElem? (i := 447) (by decide +kernel)⟩
def lw_privs_1 : List (MethodName × Nat) := [(⟨"BindingServer", "refresh", "()V"⟩, 9), (⟨"BindingServer$Tokens", "endLine", "(Z)V"⟩, 8), (⟨"BindingServer$Tokens", "add", "(III)V"⟩, 8), (⟨"BindingServer$Tokens", "beginLine", "(II)V"⟩, 8), (⟨"BindingServer$Tokens", "lastIndent", "()I"⟩, 8), (⟨"BindingServer$Tokens", "readOne", "(I)I"⟩, 8), (⟨"BindingServer$Tokens", "countOpen", "(I)V"⟩, 8), (⟨"BindingServer$Tokens", "endText", "()V"⟩, 8), (⟨"BindingServer$Parser", "begin", "()V"⟩, 13), (⟨"BindingServer$Parser", "advance", "()V"⟩, 13), (⟨"BindingServer$Parser", "statement", "(I)Z"⟩, 13), (⟨"BindingServer$Parser", "beginsCompound", "()Z"⟩, 13), (⟨"BindingServer$Parser", "compound", "(I)Z"⟩, 13), (⟨"BindingServer$Parser", "function", "(I)Z"⟩, 13), (⟨"BindingServer$Parser", "take", "(I)Z"⟩, 13), (⟨"BindingServer$Parser", "refuse", "(I)Z"⟩, 13)]
theorem lw_r1 : ∀ q ∈ lw_privs_1, lw_okq q := List.forall_mem_cons.mpr ⟨lw_p0, List.forall_mem_cons.mpr ⟨lw_p1, List.forall_mem_cons.mpr ⟨lw_p2, List.forall_mem_cons.mpr ⟨lw_p3, List.forall_mem_cons.mpr ⟨lw_p4, List.forall_mem_cons.mpr ⟨lw_p5, List.forall_mem_cons.mpr ⟨lw_p6, List.forall_mem_cons.mpr ⟨lw_p7, List.forall_mem_cons.mpr ⟨lw_p8, List.forall_mem_cons.mpr ⟨lw_p9, List.forall_mem_cons.mpr ⟨lw_p10, List.forall_mem_cons.mpr ⟨lw_p11, List.forall_mem_cons.mpr ⟨lw_p12, List.forall_mem_cons.mpr ⟨lw_p13, List.forall_mem_cons.mpr ⟨lw_p14, List.forall_mem_cons.mpr ⟨lw_p15, fun _ h => absurd h List.not_mem_nil⟩⟩⟩⟩⟩⟩⟩⟩⟩⟩⟩⟩⟩⟩⟩⟩
theorem lw_p16 : lw_okq (⟨"BindingServer$Parser", "takeName", "(I)Z"⟩, 13) := ⟨⟨by decide +kernel, by decide +kernel⟩, List.mem_of_getElem? (i := 162) (by decide +kernel), List.mem_of_getElem? (i := 450) (by decide +kernel), List.mem_of_getElem? (i := 451) (by decide +kernel)⟩
theorem lw_p17 : lw_okq (⟨"BindingServer$Parser", "parameters", "()Z"⟩, 13) := ⟨⟨by decide +kernel, by decide +kernel⟩, List.mem_of_getElem? (i := 162) (by decide +kernel), List.mem_of_getElem? (i := 459) (by decide +kernel), List.mem_of_getElem? (i := 460) (by decide +kernel)⟩
theorem lw_p18 : lw_okq (⟨"BindingServer$Parser", "nameRow", "(I)Z"⟩, 13) := ⟨⟨by decide +kernel, by decide +kernel⟩, List.mem_of_getElem? (i := 162) (by decide +kernel), List.mem_of_getElem? (i := 463) (by decide +kernel), List.mem_of_getElem? (i := 464) (by decide +kernel)⟩
theorem lw_p19 : lw_okq (⟨"BindingServer$Parser", "body", "(I)Z"⟩, 13) := ⟨⟨by decide +kernel, by decide +kernel⟩, List.mem_of_getElem? (i := 162) (by decide +kernel), List.mem_of_getElem? (i := 467) (by decide +kernel), List.mem_of_getElem? (i := 468) (by decide +kernel)⟩
theorem lw_p20 : lw_okq (⟨"BindingServer$Parser", "takeDeeper", "(II)Z"⟩, 13) := ⟨⟨by decide +kernel, by decide +kernel⟩, List.mem_of_getElem? (i := 162) (by decide +kernel), List.mem_of_getElem? (i := 471) (by decide +kernel), List.mem_of_getElem? (i := 472) (by decide +kernel)⟩
theorem lw_p21 : lw_okq (⟨"BindingServer$Parser", "simple", "(I)Z"⟩, 13) := ⟨⟨by decide +kernel, by decide +kernel⟩, List.mem_of_getElem? (i := 162) (by decide +kernel), List.mem_of_getElem? (i := 475) (by decide +kernel), List.mem_of_getElem? (i := 476) (by decide +kernel)⟩
theorem lw_p22 : lw_okq (⟨"BindingServer$Parser", "noteReturn", "()V"⟩, 13) := ⟨⟨by decide +kernel, by decide +kernel⟩, List.mem_of_getElem? (i := 162) (by decide +kernel), List.mem_of_getElem? (i := 479) (by decide +kernel), List.mem_of_getElem? (i := 480) (by decide +kernel)⟩
theorem lw_p23 : lw_okq (⟨"BindingServer$Parser", "expression", "(I)Z"⟩, 13) := ⟨⟨by decide +kernel, by decide +kernel⟩, List.mem_of_getElem? (i := 162) (by decide +kernel), List.mem_of_getElem? (i := 487) (by decide +kernel), List.mem_of_getElem? (i := 488) (by decide +kernel)⟩
theorem lw_p24 : lw_okq (⟨"BindingServer$Parser", "lambda", "(I)Z"⟩, 13) := ⟨⟨by decide +kernel, by decide +kernel⟩, List.mem_of_getElem? (i := 162) (by decide +kernel), List.mem_of_getElem? (i := 491) (by decide +kernel), List.mem_of_getElem? (i := 492) (by decide +kernel)⟩
theorem lw_p25 : lw_okq (⟨"BindingServer$Parser", "item", "(I)Z"⟩, 13) := ⟨⟨by decide +kernel, by decide +kernel⟩, List.mem_of_getElem? (i := 162) (by decide +kernel), List.mem_of_getElem? (i := 499) (by decide +kernel), List.mem_of_getElem? (i := 500) (by decide +kernel)⟩
theorem lw_p26 : lw_okq (⟨"BindingServer$Parser", "core", "(I)Z"⟩, 13) := ⟨⟨by decide +kernel, by decide +kernel⟩, List.mem_of_getElem? (i := 162) (by decide +kernel), List.mem_of_getElem? (i := 503) (by decide +kernel), List.mem_of_getElem? (i := 504) (by decide +kernel)⟩
theorem lw_p27 : lw_okq (⟨"BindingServer$Parser", "group", "(I)Z"⟩, 13) := ⟨⟨by decide +kernel, by decide +kernel⟩, List.mem_of_getElem? (i := 162) (by decide +kernel), List.mem_of_getElem? (i := 507) (by decide +kernel), List.mem_of_getElem? (i := 508) (by decide +kernel)⟩
theorem lw_p28 : lw_okq (⟨"BindingServer$Parser", "seesNameBefore", "(I)Z"⟩, 13) := ⟨⟨by decide +kernel, by decide +kernel⟩, List.mem_of_getElem? (i := 162) (by decide +kernel), List.mem_of_getElem? (i := 511) (by decide +kernel), List.mem_of_getElem? (i := 512) (by decide +kernel)⟩
theorem lw_p29 : lw_okq (⟨"BindingServer$Parser", "takeWalrus", "()V"⟩, 13) := ⟨⟨by decide +kernel, by decide +kernel⟩, List.mem_of_getElem? (i := 162) (by decide +kernel), List.mem_of_getElem? (i := 519) (by decide +kernel), List.mem_of_getElem? (i := 520) (by decide +kernel)⟩
theorem lw_p30 : lw_okq (⟨"BindingServer$Parser", "comprehension", "(I)Z"⟩, 13) := ⟨⟨by decide +kernel, by decide +kernel⟩, List.mem_of_getElem? (i := 162) (by decide +kernel), List.mem_of_getElem? (i := 531) (by decide +kernel), List.mem_of_getElem? (i := 532) (by decide +kernel)⟩
theorem lw_p31 : lw_okq (⟨"BindingServer$Parser", "call", "(I)Z"⟩, 13) := ⟨⟨by decide +kernel, by decide +kernel⟩, List.mem_of_getElem? (i := 162) (by decide +kernel), List.mem_of_getElem? (i := 539) (by decide +kernel), List.mem_of_getElem? (i := 540) (by decide +kernel)⟩
def lw_privs_2 : List (MethodName × Nat) := [(⟨"BindingServer$Parser", "takeName", "(I)Z"⟩, 13), (⟨"BindingServer$Parser", "parameters", "()Z"⟩, 13), (⟨"BindingServer$Parser", "nameRow", "(I)Z"⟩, 13), (⟨"BindingServer$Parser", "body", "(I)Z"⟩, 13), (⟨"BindingServer$Parser", "takeDeeper", "(II)Z"⟩, 13), (⟨"BindingServer$Parser", "simple", "(I)Z"⟩, 13), (⟨"BindingServer$Parser", "noteReturn", "()V"⟩, 13), (⟨"BindingServer$Parser", "expression", "(I)Z"⟩, 13), (⟨"BindingServer$Parser", "lambda", "(I)Z"⟩, 13), (⟨"BindingServer$Parser", "item", "(I)Z"⟩, 13), (⟨"BindingServer$Parser", "core", "(I)Z"⟩, 13), (⟨"BindingServer$Parser", "group", "(I)Z"⟩, 13), (⟨"BindingServer$Parser", "seesNameBefore", "(I)Z"⟩, 13), (⟨"BindingServer$Parser", "takeWalrus", "()V"⟩, 13), (⟨"BindingServer$Parser", "comprehension", "(I)Z"⟩, 13), (⟨"BindingServer$Parser", "call", "(I)Z"⟩, 13)]
theorem lw_r2 : ∀ q ∈ lw_privs_2, lw_okq q := List.forall_mem_cons.mpr ⟨lw_p16, List.forall_mem_cons.mpr ⟨lw_p17, List.forall_mem_cons.mpr ⟨lw_p18, List.forall_mem_cons.mpr ⟨lw_p19, List.forall_mem_cons.mpr ⟨lw_p20, List.forall_mem_cons.mpr ⟨lw_p21, List.forall_mem_cons.mpr ⟨lw_p22, List.forall_mem_cons.mpr ⟨lw_p23, List.forall_mem_cons.mpr ⟨lw_p24, List.forall_mem_cons.mpr ⟨lw_p25, List.forall_mem_cons.mpr ⟨lw_p26, List.forall_mem_cons.mpr ⟨lw_p27, List.forall_mem_cons.mpr ⟨lw_p28, List.forall_mem_cons.mpr ⟨lw_p29, List.forall_mem_cons.mpr ⟨lw_p30, List.forall_mem_cons.mpr ⟨lw_p31, fun _ h => absurd h List.not_mem_nil⟩⟩⟩⟩⟩⟩⟩⟩⟩⟩⟩⟩⟩⟩⟩⟩
theorem lw_p32 : lw_okq (⟨"BindingServer$Parser", "block", "(I)Z"⟩, 13) := ⟨⟨by decide +kernel, by decide +kernel⟩, List.mem_of_getElem? (i := 162) (by decide +kernel), List.mem_of_getElem? (i := 543) (by decide +kernel), List.mem_of_getElem? (i := 544) (by decide +kernel)⟩
theorem lw_p33 : lw_okq (⟨"BindingServer$Parser", "classBlock", "(I)Z"⟩, 13) := ⟨⟨by decide +kernel, by decide +kernel⟩, List.mem_of_getElem? (i := 162) (by decide +kernel), List.mem_of_getElem? (i := 547) (by decide +kernel), List.mem_of_getElem? (i := 548) (by decide +kernel)⟩
theorem lw_p34 : lw_okq (⟨"BindingServer$Parser", "condition", "(I)Z"⟩, 13) := ⟨⟨by decide +kernel, by decide +kernel⟩, List.mem_of_getElem? (i := 162) (by decide +kernel), List.mem_of_getElem? (i := 551) (by decide +kernel), List.mem_of_getElem? (i := 552) (by decide +kernel)⟩
theorem lw_p35 : lw_okq (⟨"BindingServer", "isAccepted", "()Z"⟩, 9) := ⟨⟨by decide +kernel, by decide +kernel⟩, List.mem_of_getElem? (i := 15) (by decide +kernel), List.mem_of_getElem? (i := 555) (by decide +kernel), List.mem_of_getElem? (i := 556) (by decide +kernel)⟩
theorem lw_p36 : lw_okq (⟨"BindingServer$Binder", "tellSpellings", "()V"⟩, 5) := ⟨⟨by decide +kernel, by decide +kernel⟩, List.mem_of_getElem? (i := 211) (by decide +kernel), List.mem_of_getElem? (i := 563) (by decide +kernel), List.mem_of_getElem? (i := 564) (by decide +kernel)⟩
theorem lw_p37 : lw_okq (⟨"BindingServer$Binder", "sameSpelling", "(II)Z"⟩, 5) := ⟨⟨by decide +kernel, by decide +kernel⟩, List.mem_of_getElem? (i := 211) (by decide +kernel), List.mem_of_getElem? (i := 567) (by decide +kernel), List.mem_of_getElem? (i := 568) (by decide +kernel)⟩
theorem lw_p38 : lw_okq (⟨"BindingServer$Binder", "findError", "(I)V"⟩, 5) := ⟨⟨by decide +kernel, by decide +kernel⟩, List.mem_of_getElem? (i := 211) (by decide +kernel), List.mem_of_getElem? (i := 579) (by decide +kernel), List.mem_of_getElem? (i := 580) (by decide +kernel)⟩
theorem lw_p39 : lw_okq (⟨"BindingServer$Binder", "errorOf", "(I)I"⟩, 5) := ⟨⟨by decide +kernel, by decide +kernel⟩, List.mem_of_getElem? (i := 211) (by decide +kernel), List.mem_of_getElem? (i := 583) (by decide +kernel), List.mem_of_getElem? (i := 584) (by decide +kernel)⟩
theorem lw_p40 : lw_okq (⟨"BindingServer$Binder", "earlierRoles", "(I)I"⟩, 5) := ⟨⟨by decide +kernel, by decide +kernel⟩, List.mem_of_getElem? (i := 211) (by decide +kernel), List.mem_of_getElem? (i := 591) (by decide +kernel), List.mem_of_getElem? (i := 592) (by decide +kernel)⟩
theorem lw_p41 : lw_okq (⟨"BindingServer$Binder", "errorOfDeclared", "(I)I"⟩, 5) := ⟨⟨by decide +kernel, by decide +kernel⟩, List.mem_of_getElem? (i := 211) (by decide +kernel), List.mem_of_getElem? (i := 599) (by decide +kernel), List.mem_of_getElem? (i := 600) (by decide +kernel)⟩
theorem lw_p42 : lw_okq (⟨"BindingServer$Binder", "search", "(II)I"⟩, 5) := ⟨⟨by decide +kernel, by decide +kernel⟩, List.mem_of_getElem? (i := 211) (by decide +kernel), List.mem_of_getElem? (i := 603) (by decide +kernel), List.mem_of_getElem? (i := 604) (by decide +kernel)⟩
theorem lw_p43 : lw_okq (⟨"BindingServer$Binder", "errorOfWalrus", "(I)I"⟩, 5) := ⟨⟨by decide +kernel, by decide +kernel⟩, List.mem_of_getElem? (i := 211) (by decide +kernel), List.mem_of_getElem? (i := 615) (by decide +kernel), List.mem_of_getElem? (i := 616) (by decide +kernel)⟩
theorem lw_p44 : lw_okq (⟨"BindingServer$Binder", "bindsTarget", "(I)Z"⟩, 5) := ⟨⟨by decide +kernel, by decide +kernel⟩, List.mem_of_getElem? (i := 211) (by decide +kernel), List.mem_of_getElem? (i := 619) (by decide +kernel), List.mem_of_getElem? (i := 620) (by decide +kernel)⟩
theorem lw_p45 : lw_okq (⟨"BindingServer$Binder", "settle", "(I)V"⟩, 5) := ⟨⟨by decide +kernel, by decide +kernel⟩, List.mem_of_getElem? (i := 211) (by decide +kernel), List.mem_of_getElem? (i := 627) (by decide +kernel), List.mem_of_getElem? (i := 628) (by decide +kernel)⟩
theorem lw_p46 : lw_okq (⟨"BindingServer$Binder", "stand", "(III)V"⟩, 5) := ⟨⟨by decide +kernel, by decide +kernel⟩, List.mem_of_getElem? (i := 211) (by decide +kernel), List.mem_of_getElem? (i := 631) (by decide +kernel), List.mem_of_getElem? (i := 632) (by decide +kernel)⟩
theorem lw_p47 : lw_okq (⟨"BindingServer$Binder", "isKnown", "(I)Z"⟩, 5) := ⟨⟨by decide +kernel, by decide +kernel⟩, List.mem_of_getElem? (i := 211) (by decide +kernel), List.mem_of_getElem? (i := 635) (by decide +kernel), List.mem_of_getElem? (i := 636) (by decide +kernel)⟩
def lw_privs_3 : List (MethodName × Nat) := [(⟨"BindingServer$Parser", "block", "(I)Z"⟩, 13), (⟨"BindingServer$Parser", "classBlock", "(I)Z"⟩, 13), (⟨"BindingServer$Parser", "condition", "(I)Z"⟩, 13), (⟨"BindingServer", "isAccepted", "()Z"⟩, 9), (⟨"BindingServer$Binder", "tellSpellings", "()V"⟩, 5), (⟨"BindingServer$Binder", "sameSpelling", "(II)Z"⟩, 5), (⟨"BindingServer$Binder", "findError", "(I)V"⟩, 5), (⟨"BindingServer$Binder", "errorOf", "(I)I"⟩, 5), (⟨"BindingServer$Binder", "earlierRoles", "(I)I"⟩, 5), (⟨"BindingServer$Binder", "errorOfDeclared", "(I)I"⟩, 5), (⟨"BindingServer$Binder", "search", "(II)I"⟩, 5), (⟨"BindingServer$Binder", "errorOfWalrus", "(I)I"⟩, 5), (⟨"BindingServer$Binder", "bindsTarget", "(I)Z"⟩, 5), (⟨"BindingServer$Binder", "settle", "(I)V"⟩, 5), (⟨"BindingServer$Binder", "stand", "(III)V"⟩, 5), (⟨"BindingServer$Binder", "isKnown", "(I)Z"⟩, 5)]
theorem lw_r3 : ∀ q ∈ lw_privs_3, lw_okq q := List.forall_mem_cons.mpr ⟨lw_p32, List.forall_mem_cons.mpr ⟨lw_p33, List.forall_mem_cons.mpr ⟨lw_p34, List.forall_mem_cons.mpr ⟨lw_p35, List.forall_mem_cons.mpr ⟨lw_p36, List.forall_mem_cons.mpr ⟨lw_p37, List.forall_mem_cons.mpr ⟨lw_p38, List.forall_mem_cons.mpr ⟨lw_p39, List.forall_mem_cons.mpr ⟨lw_p40, List.forall_mem_cons.mpr ⟨lw_p41, List.forall_mem_cons.mpr ⟨lw_p42, List.forall_mem_cons.mpr ⟨lw_p43, List.forall_mem_cons.mpr ⟨lw_p44, List.forall_mem_cons.mpr ⟨lw_p45, List.forall_mem_cons.mpr ⟨lw_p46, List.forall_mem_cons.mpr ⟨lw_p47, fun _ h => absurd h List.not_mem_nil⟩⟩⟩⟩⟩⟩⟩⟩⟩⟩⟩⟩⟩⟩⟩⟩
theorem lw_p48 : lw_okq (⟨"BindingServer$Binder", "isOfModule", "(I)Z"⟩, 5) := ⟨⟨by decide +kernel, by decide +kernel⟩, List.mem_of_getElem? (i := 211) (by decide +kernel), List.mem_of_getElem? (i := 644) (by decide +kernel), List.mem_of_getElem? (i := 645) (by decide +kernel)⟩
theorem lw_p49 : lw_okq (⟨"BindingServer$Binder", "markCells", "()V"⟩, 5) := ⟨⟨by decide +kernel, by decide +kernel⟩, List.mem_of_getElem? (i := 211) (by decide +kernel), List.mem_of_getElem? (i := 648) (by decide +kernel), List.mem_of_getElem? (i := 649) (by decide +kernel)⟩
theorem lw_p50 : lw_okq (⟨"BindingServer$Binder", "isUsedInside", "(I)Z"⟩, 5) := ⟨⟨by decide +kernel, by decide +kernel⟩, List.mem_of_getElem? (i := 211) (by decide +kernel), List.mem_of_getElem? (i := 652) (by decide +kernel), List.mem_of_getElem? (i := 653) (by decide +kernel)⟩
theorem lw_p51 : lw_okq (⟨"BindingServer$Extents", "holds", "(II)Z"⟩, 3) := ⟨⟨by decide +kernel, by decide +kernel⟩, List.mem_of_getElem? (i := 78) (by decide +kernel), List.mem_of_getElem? (i := 690) (by decide +kernel), List.mem_of_getElem? (i := 691) (by decide +kernel)⟩
theorem lw_p52 : lw_okq (⟨"BindingServer$Extents", "countSmaller", "(II)I"⟩, 3) := ⟨⟨by decide +kernel, by decide +kernel⟩, List.mem_of_getElem? (i := 78) (by decide +kernel), List.mem_of_getElem? (i := 694) (by decide +kernel), List.mem_of_getElem? (i := 695) (by decide +kernel)⟩
theorem lw_p53 : lw_okq (⟨"BindingServer", "settledAt", "(I)I"⟩, 9) := ⟨⟨by decide +kernel, by decide +kernel⟩, List.mem_of_getElem? (i := 15) (by decide +kernel), List.mem_of_getElem? (i := 720) (by decide +kernel), List.mem_of_getElem? (i := 721) (by decide +kernel)⟩
theorem lw_p54 : lw_okq (⟨"BindingServer", "isFine", "()Z"⟩, 9) := ⟨⟨by decide +kernel, by decide +kernel⟩, List.mem_of_getElem? (i := 15) (by decide +kernel), List.mem_of_getElem? (i := 724) (by decide +kernel), List.mem_of_getElem? (i := 725) (by decide +kernel)⟩
theorem lw_p55 : lw_okq (⟨"BindingServer", "respell", "(IJ)V"⟩, 9) := ⟨⟨by decide +kernel, by decide +kernel⟩, List.mem_of_getElem? (i := 15) (by decide +kernel), List.mem_of_getElem? (i := 772) (by decide +kernel), List.mem_of_getElem? (i := 773) (by decide +kernel)⟩
theorem lw_p56 : lw_okq (⟨"BindingServerModel", "replace", "(IIIJ)V"⟩, 37) := ⟨⟨by decide +kernel, by decide +kernel⟩, List.mem_of_getElem? (i := 784) (by decide +kernel), List.mem_of_getElem? (i := 909) (by decide +kernel), List.mem_of_getElem? (i := 910) (by decide +kernel)⟩
theorem lw_p57 : lw_okq (⟨"BindingServerModel", "look", "()V"⟩, 37) := ⟨⟨by decide +kernel, by decide +kernel⟩, List.mem_of_getElem? (i := 784) (by decide +kernel), List.mem_of_getElem? (i := 925) (by decide +kernel), List.mem_of_getElem? (i := 926) (by decide +kernel)⟩
theorem lw_p58 : lw_okq (⟨"BindingServerModel", "split", "()V"⟩, 37) := ⟨⟨by decide +kernel, by decide +kernel⟩, List.mem_of_getElem? (i := 784) (by decide +kernel), List.mem_of_getElem? (i := 929) (by decide +kernel), List.mem_of_getElem? (i := 930) (by decide +kernel)⟩
theorem lw_p59 : lw_okq (⟨"BindingServerModel", "endLine", "(Z)V"⟩, 37) := ⟨⟨by decide +kernel, by decide +kernel⟩, List.mem_of_getElem? (i := 784) (by decide +kernel), List.mem_of_getElem? (i := 933) (by decide +kernel), List.mem_of_getElem? (i := 934) (by decide +kernel)⟩
theorem lw_p60 : lw_okq (⟨"BindingServerModel", "put", "(IIII)V"⟩, 37) := ⟨⟨by decide +kernel, by decide +kernel⟩, List.mem_of_getElem? (i := 784) (by decide +kernel), List.mem_of_getElem? (i := 937) (by decide +kernel), List.mem_of_getElem? (i := 938) (by decide +kernel)⟩
theorem lw_p61 : lw_okq (⟨"BindingServerModel", "indent", "(III)I"⟩, 37) := ⟨⟨by decide +kernel, by decide +kernel⟩, List.mem_of_getElem? (i := 784) (by decide +kernel), List.mem_of_getElem? (i := 941) (by decide +kernel), List.mem_of_getElem? (i := 942) (by decide +kernel)⟩
theorem lw_p62 : lw_okq (⟨"BindingServerModel", "one", "(I)I"⟩, 37) := ⟨⟨by decide +kernel, by decide +kernel⟩, List.mem_of_getElem? (i := 784) (by decide +kernel), List.mem_of_getElem? (i := 945) (by decide +kernel), List.mem_of_getElem? (i := 946) (by decide +kernel)⟩
theorem lw_p63 : lw_okq (⟨"BindingServerModel", "parse", "()V"⟩, 37) := ⟨⟨by decide +kernel, by decide +kernel⟩, List.mem_of_getElem? (i := 784) (by decide +kernel), List.mem_of_getElem? (i := 973) (by decide +kernel), List.mem_of_getElem? (i := 974) (by decide +kernel)⟩
def lw_privs_4 : List (MethodName × Nat) := [(⟨"BindingServer$Binder", "isOfModule", "(I)Z"⟩, 5), (⟨"BindingServer$Binder", "markCells", "()V"⟩, 5), (⟨"BindingServer$Binder", "isUsedInside", "(I)Z"⟩, 5), (⟨"BindingServer$Extents", "holds", "(II)Z"⟩, 3), (⟨"BindingServer$Extents", "countSmaller", "(II)I"⟩, 3), (⟨"BindingServer", "settledAt", "(I)I"⟩, 9), (⟨"BindingServer", "isFine", "()Z"⟩, 9), (⟨"BindingServer", "respell", "(IJ)V"⟩, 9), (⟨"BindingServerModel", "replace", "(IIIJ)V"⟩, 37), (⟨"BindingServerModel", "look", "()V"⟩, 37), (⟨"BindingServerModel", "split", "()V"⟩, 37), (⟨"BindingServerModel", "endLine", "(Z)V"⟩, 37), (⟨"BindingServerModel", "put", "(IIII)V"⟩, 37), (⟨"BindingServerModel", "indent", "(III)I"⟩, 37), (⟨"BindingServerModel", "one", "(I)I"⟩, 37), (⟨"BindingServerModel", "parse", "()V"⟩, 37)]
theorem lw_r4 : ∀ q ∈ lw_privs_4, lw_okq q := List.forall_mem_cons.mpr ⟨lw_p48, List.forall_mem_cons.mpr ⟨lw_p49, List.forall_mem_cons.mpr ⟨lw_p50, List.forall_mem_cons.mpr ⟨lw_p51, List.forall_mem_cons.mpr ⟨lw_p52, List.forall_mem_cons.mpr ⟨lw_p53, List.forall_mem_cons.mpr ⟨lw_p54, List.forall_mem_cons.mpr ⟨lw_p55, List.forall_mem_cons.mpr ⟨lw_p56, List.forall_mem_cons.mpr ⟨lw_p57, List.forall_mem_cons.mpr ⟨lw_p58, List.forall_mem_cons.mpr ⟨lw_p59, List.forall_mem_cons.mpr ⟨lw_p60, List.forall_mem_cons.mpr ⟨lw_p61, List.forall_mem_cons.mpr ⟨lw_p62, List.forall_mem_cons.mpr ⟨lw_p63, fun _ h => absurd h List.not_mem_nil⟩⟩⟩⟩⟩⟩⟩⟩⟩⟩⟩⟩⟩⟩⟩⟩
theorem lw_p64 : lw_okq (⟨"BindingServerModel", "scopeOf", "(II)I"⟩, 37) := ⟨⟨by decide +kernel, by decide +kernel⟩, List.mem_of_getElem? (i := 784) (by decide +kernel), List.mem_of_getElem? (i := 977) (by decide +kernel), List.mem_of_getElem? (i := 978) (by decide +kernel)⟩
theorem lw_p65 : lw_okq (⟨"BindingServerModel", "push", "(II)V"⟩, 37) := ⟨⟨by decide +kernel, by decide +kernel⟩, List.mem_of_getElem? (i := 784) (by decide +kernel), List.mem_of_getElem? (i := 981) (by decide +kernel), List.mem_of_getElem? (i := 982) (by decide +kernel)⟩
theorem lw_p66 : lw_okq (⟨"BindingServerModel", "step", "(II)V"⟩, 37) := ⟨⟨by decide +kernel, by decide +kernel⟩, List.mem_of_getElem? (i := 784) (by decide +kernel), List.mem_of_getElem? (i := 985) (by decide +kernel), List.mem_of_getElem? (i := 986) (by decide +kernel)⟩
theorem lw_p67 : lw_okq (⟨"BindingServerModel", "statement", "()V"⟩, 37) := ⟨⟨by decide +kernel, by decide +kernel⟩, List.mem_of_getElem? (i := 784) (by decide +kernel), List.mem_of_getElem? (i := 989) (by decide +kernel), List.mem_of_getElem? (i := 990) (by decide +kernel)⟩
theorem lw_p68 : lw_okq (⟨"BindingServerModel", "shift", "()V"⟩, 37) := ⟨⟨by decide +kernel, by decide +kernel⟩, List.mem_of_getElem? (i := 784) (by decide +kernel), List.mem_of_getElem? (i := 993) (by decide +kernel), List.mem_of_getElem? (i := 994) (by decide +kernel)⟩
theorem lw_p69 : lw_okq (⟨"BindingServerModel", "want", "(II)V"⟩, 37) := ⟨⟨by decide +kernel, by decide +kernel⟩, List.mem_of_getElem? (i := 784) (by decide +kernel), List.mem_of_getElem? (i := 997) (by decide +kernel), List.mem_of_getElem? (i := 998) (by decide +kernel)⟩
theorem lw_p70 : lw_okq (⟨"BindingServerModel", "span", "(I)V"⟩, 37) := ⟨⟨by decide +kernel, by decide +kernel⟩, List.mem_of_getElem? (i := 784) (by decide +kernel), List.mem_of_getElem? (i := 1001) (by decide +kernel), List.mem_of_getElem? (i := 1002) (by decide +kernel)⟩
theorem lw_p71 : lw_okq (⟨"BindingServerModel", "simple", "()V"⟩, 37) := ⟨⟨by decide +kernel, by decide +kernel⟩, List.mem_of_getElem? (i := 784) (by decide +kernel), List.mem_of_getElem? (i := 1005) (by decide +kernel), List.mem_of_getElem? (i := 1006) (by decide +kernel)⟩
theorem lw_p72 : lw_okq (⟨"BindingServerModel", "begins", "()Z"⟩, 37) := ⟨⟨by decide +kernel, by decide +kernel⟩, List.mem_of_getElem? (i := 784) (by decide +kernel), List.mem_of_getElem? (i := 1009) (by decide +kernel), List.mem_of_getElem? (i := 1010) (by decide +kernel)⟩
theorem lw_p73 : lw_okq (⟨"BindingServerModel", "is", "(II)Z"⟩, 37) := ⟨⟨by decide +kernel, by decide +kernel⟩, List.mem_of_getElem? (i := 784) (by decide +kernel), List.mem_of_getElem? (i := 1013) (by decide +kernel), List.mem_of_getElem? (i := 1014) (by decide +kernel)⟩
theorem lw_p74 : lw_okq (⟨"BindingServerModel", "expr", "()V"⟩, 37) := ⟨⟨by decide +kernel, by decide +kernel⟩, List.mem_of_getElem? (i := 784) (by decide +kernel), List.mem_of_getElem? (i := 1017) (by decide +kernel), List.mem_of_getElem? (i := 1018) (by decide +kernel)⟩
theorem lw_p75 : lw_okq (⟨"BindingServerModel", "deeper", "()Z"⟩, 37) := ⟨⟨by decide +kernel, by decide +kernel⟩, List.mem_of_getElem? (i := 784) (by decide +kernel), List.mem_of_getElem? (i := 1021) (by decide +kernel), List.mem_of_getElem? (i := 1022) (by decide +kernel)⟩
theorem lw_p76 : lw_okq (⟨"BindingServerModel", "fail", "(I)V"⟩, 37) := ⟨⟨by decide +kernel, by decide +kernel⟩, List.mem_of_getElem? (i := 784) (by decide +kernel), List.mem_of_getElem? (i := 1025) (by decide +kernel), List.mem_of_getElem? (i := 1026) (by decide +kernel)⟩
theorem lw_p77 : lw_okq (⟨"BindingServerModel", "item", "()V"⟩, 37) := ⟨⟨by decide +kernel, by decide +kernel⟩, List.mem_of_getElem? (i := 784) (by decide +kernel), List.mem_of_getElem? (i := 1029) (by decide +kernel), List.mem_of_getElem? (i := 1030) (by decide +kernel)⟩
theorem lw_p78 : lw_okq (⟨"BindingServerModel", "suffix", "(I)V"⟩, 37) := ⟨⟨by decide +kernel, by decide +kernel⟩, List.mem_of_getElem? (i := 784) (by decide +kernel), List.mem_of_getElem? (i := 1033) (by decide +kernel), List.mem_of_getElem? (i := 1034) (by decide +kernel)⟩
theorem lw_p79 : lw_okq (⟨"BindingServerModel", "lists", "(II)V"⟩, 37) := ⟨⟨by decide +kernel, by decide +kernel⟩, List.mem_of_getElem? (i := 784) (by decide +kernel), List.mem_of_getElem? (i := 1037) (by decide +kernel), List.mem_of_getElem? (i := 1038) (by decide +kernel)⟩
def lw_privs_5 : List (MethodName × Nat) := [(⟨"BindingServerModel", "scopeOf", "(II)I"⟩, 37), (⟨"BindingServerModel", "push", "(II)V"⟩, 37), (⟨"BindingServerModel", "step", "(II)V"⟩, 37), (⟨"BindingServerModel", "statement", "()V"⟩, 37), (⟨"BindingServerModel", "shift", "()V"⟩, 37), (⟨"BindingServerModel", "want", "(II)V"⟩, 37), (⟨"BindingServerModel", "span", "(I)V"⟩, 37), (⟨"BindingServerModel", "simple", "()V"⟩, 37), (⟨"BindingServerModel", "begins", "()Z"⟩, 37), (⟨"BindingServerModel", "is", "(II)Z"⟩, 37), (⟨"BindingServerModel", "expr", "()V"⟩, 37), (⟨"BindingServerModel", "deeper", "()Z"⟩, 37), (⟨"BindingServerModel", "fail", "(I)V"⟩, 37), (⟨"BindingServerModel", "item", "()V"⟩, 37), (⟨"BindingServerModel", "suffix", "(I)V"⟩, 37), (⟨"BindingServerModel", "lists", "(II)V"⟩, 37)]
theorem lw_r5 : ∀ q ∈ lw_privs_5, lw_okq q := List.forall_mem_cons.mpr ⟨lw_p64, List.forall_mem_cons.mpr ⟨lw_p65, List.forall_mem_cons.mpr ⟨lw_p66, List.forall_mem_cons.mpr ⟨lw_p67, List.forall_mem_cons.mpr ⟨lw_p68, List.forall_mem_cons.mpr ⟨lw_p69, List.forall_mem_cons.mpr ⟨lw_p70, List.forall_mem_cons.mpr ⟨lw_p71, List.forall_mem_cons.mpr ⟨lw_p72, List.forall_mem_cons.mpr ⟨lw_p73, List.forall_mem_cons.mpr ⟨lw_p74, List.forall_mem_cons.mpr ⟨lw_p75, List.forall_mem_cons.mpr ⟨lw_p76, List.forall_mem_cons.mpr ⟨lw_p77, List.forall_mem_cons.mpr ⟨lw_p78, List.forall_mem_cons.mpr ⟨lw_p79, fun _ h => absurd h List.not_mem_nil⟩⟩⟩⟩⟩⟩⟩⟩⟩⟩⟩⟩⟩⟩⟩⟩
theorem lw_p80 : lw_okq (⟨"BindingServerModel", "rest", "(II)V"⟩, 37) := ⟨⟨by decide +kernel, by decide +kernel⟩, List.mem_of_getElem? (i := 784) (by decide +kernel), List.mem_of_getElem? (i := 1041) (by decide +kernel), List.mem_of_getElem? (i := 1042) (by decide +kernel)⟩
theorem lw_p81 : lw_okq (⟨"BindingServerModel", "sortScopes", "()V"⟩, 37) := ⟨⟨by decide +kernel, by decide +kernel⟩, List.mem_of_getElem? (i := 784) (by decide +kernel), List.mem_of_getElem? (i := 1045) (by decide +kernel), List.mem_of_getElem? (i := 1046) (by decide +kernel)⟩
theorem lw_p82 : lw_okq (⟨"BindingServerModel", "exchange", "(I)V"⟩, 37) := ⟨⟨by decide +kernel, by decide +kernel⟩, List.mem_of_getElem? (i := 784) (by decide +kernel), List.mem_of_getElem? (i := 1049) (by decide +kernel), List.mem_of_getElem? (i := 1050) (by decide +kernel)⟩
theorem lw_p83 : lw_okq (⟨"BindingServerModel", "listNames", "()V"⟩, 37) := ⟨⟨by decide +kernel, by decide +kernel⟩, List.mem_of_getElem? (i := 784) (by decide +kernel), List.mem_of_getElem? (i := 1053) (by decide +kernel), List.mem_of_getElem? (i := 1054) (by decide +kernel)⟩
theorem lw_p84 : lw_okq (⟨"BindingServerModel", "findError", "()V"⟩, 37) := ⟨⟨by decide +kernel, by decide +kernel⟩, List.mem_of_getElem? (i := 784) (by decide +kernel), List.mem_of_getElem? (i := 1057) (by decide +kernel), List.mem_of_getElem? (i := 1058) (by decide +kernel)⟩
theorem lw_p85 : lw_okq (⟨"BindingServerModel", "belongs", "(I)I"⟩, 37) := ⟨⟨by decide +kernel, by decide +kernel⟩, List.mem_of_getElem? (i := 784) (by decide +kernel), List.mem_of_getElem? (i := 1061) (by decide +kernel), List.mem_of_getElem? (i := 1062) (by decide +kernel)⟩
theorem lw_p86 : lw_okq (⟨"BindingServerModel", "lies", "(I)I"⟩, 37) := ⟨⟨by decide +kernel, by decide +kernel⟩, List.mem_of_getElem? (i := 784) (by decide +kernel), List.mem_of_getElem? (i := 1065) (by decide +kernel), List.mem_of_getElem? (i := 1066) (by decide +kernel)⟩
theorem lw_p87 : lw_okq (⟨"BindingServerModel", "inSource", "(II)Z"⟩, 37) := ⟨⟨by decide +kernel, by decide +kernel⟩, List.mem_of_getElem? (i := 784) (by decide +kernel), List.mem_of_getElem? (i := 1069) (by decide +kernel), List.mem_of_getElem? (i := 1070) (by decide +kernel)⟩
theorem lw_p88 : lw_okq (⟨"BindingServerModel", "parent", "(I)I"⟩, 37) := ⟨⟨by decide +kernel, by decide +kernel⟩, List.mem_of_getElem? (i := 784) (by decide +kernel), List.mem_of_getElem? (i := 1073) (by decide +kernel), List.mem_of_getElem? (i := 1074) (by decide +kernel)⟩
theorem lw_p89 : lw_okq (⟨"BindingServerModel", "some", "(IIIII)Z"⟩, 37) := ⟨⟨by decide +kernel, by decide +kernel⟩, List.mem_of_getElem? (i := 784) (by decide +kernel), List.mem_of_getElem? (i := 1077) (by decide +kernel), List.mem_of_getElem? (i := 1078) (by decide +kernel)⟩
theorem lw_p90 : lw_okq (⟨"BindingServerModel", "same", "(II)Z"⟩, 37) := ⟨⟨by decide +kernel, by decide +kernel⟩, List.mem_of_getElem? (i := 784) (by decide +kernel), List.mem_of_getElem? (i := 1081) (by decide +kernel), List.mem_of_getElem? (i := 1082) (by decide +kernel)⟩
theorem lw_p91 : lw_okq (⟨"BindingServerModel", "note", "(II)V"⟩, 37) := ⟨⟨by decide +kernel, by decide +kernel⟩, List.mem_of_getElem? (i := 784) (by decide +kernel), List.mem_of_getElem? (i := 1085) (by decide +kernel), List.mem_of_getElem? (i := 1086) (by decide +kernel)⟩
theorem lw_p92 : lw_okq (⟨"BindingServerModel", "declares", "(I)Z"⟩, 37) := ⟨⟨by decide +kernel, by decide +kernel⟩, List.mem_of_getElem? (i := 784) (by decide +kernel), List.mem_of_getElem? (i := 1089) (by decide +kernel), List.mem_of_getElem? (i := 1090) (by decide +kernel)⟩
theorem lw_p93 : lw_okq (⟨"BindingServerModel", "declared", "(III)V"⟩, 37) := ⟨⟨by decide +kernel, by decide +kernel⟩, List.mem_of_getElem? (i := 784) (by decide +kernel), List.mem_of_getElem? (i := 1093) (by decide +kernel), List.mem_of_getElem? (i := 1094) (by decide +kernel)⟩
theorem lw_p94 : lw_okq (⟨"BindingServerModel", "search", "(II)I"⟩, 37) := ⟨⟨by decide +kernel, by decide +kernel⟩, List.mem_of_getElem? (i := 784) (by decide +kernel), List.mem_of_getElem? (i := 1097) (by decide +kernel), List.mem_of_getElem? (i := 1098) (by decide +kernel)⟩
theorem lw_p95 : lw_okq (⟨"BindingServerModel", "walrus", "(II)V"⟩, 37) := ⟨⟨by decide +kernel, by decide +kernel⟩, List.mem_of_getElem? (i := 784) (by decide +kernel), List.mem_of_getElem? (i := 1101) (by decide +kernel), List.mem_of_getElem? (i := 1102) (by decide +kernel)⟩
def lw_privs_6 : List (MethodName × Nat) := [(⟨"BindingServerModel", "rest", "(II)V"⟩, 37), (⟨"BindingServerModel", "sortScopes", "()V"⟩, 37), (⟨"BindingServerModel", "exchange", "(I)V"⟩, 37), (⟨"BindingServerModel", "listNames", "()V"⟩, 37), (⟨"BindingServerModel", "findError", "()V"⟩, 37), (⟨"BindingServerModel", "belongs", "(I)I"⟩, 37), (⟨"BindingServerModel", "lies", "(I)I"⟩, 37), (⟨"BindingServerModel", "inSource", "(II)Z"⟩, 37), (⟨"BindingServerModel", "parent", "(I)I"⟩, 37), (⟨"BindingServerModel", "some", "(IIIII)Z"⟩, 37), (⟨"BindingServerModel", "same", "(II)Z"⟩, 37), (⟨"BindingServerModel", "note", "(II)V"⟩, 37), (⟨"BindingServerModel", "declares", "(I)Z"⟩, 37), (⟨"BindingServerModel", "declared", "(III)V"⟩, 37), (⟨"BindingServerModel", "search", "(II)I"⟩, 37), (⟨"BindingServerModel", "walrus", "(II)V"⟩, 37)]
theorem lw_r6 : ∀ q ∈ lw_privs_6, lw_okq q := List.forall_mem_cons.mpr ⟨lw_p80, List.forall_mem_cons.mpr ⟨lw_p81, List.forall_mem_cons.mpr ⟨lw_p82, List.forall_mem_cons.mpr ⟨lw_p83, List.forall_mem_cons.mpr ⟨lw_p84, List.forall_mem_cons.mpr ⟨lw_p85, List.forall_mem_cons.mpr ⟨lw_p86, List.forall_mem_cons.mpr ⟨lw_p87, List.forall_mem_cons.mpr ⟨lw_p88, List.forall_mem_cons.mpr ⟨lw_p89, List.forall_mem_cons.mpr ⟨lw_p90, List.forall_mem_cons.mpr ⟨lw_p91, List.forall_mem_cons.mpr ⟨lw_p92, List.forall_mem_cons.mpr ⟨lw_p93, List.forall_mem_cons.mpr ⟨lw_p94, List.forall_mem_cons.mpr ⟨lw_p95, fun _ h => absurd h List.not_mem_nil⟩⟩⟩⟩⟩⟩⟩⟩⟩⟩⟩⟩⟩⟩⟩⟩
theorem lw_p96 : lw_okq (⟨"BindingServerModel", "smallerThan", "(II)I"⟩, 37) := ⟨⟨by decide +kernel, by decide +kernel⟩, List.mem_of_getElem? (i := 784) (by decide +kernel), List.mem_of_getElem? (i := 1121) (by decide +kernel), List.mem_of_getElem? (i := 1122) (by decide +kernel)⟩
theorem lw_p97 : lw_okq (⟨"BindingServerModel", "occurrence", "(I)I"⟩, 37) := ⟨⟨by decide +kernel, by decide +kernel⟩, List.mem_of_getElem? (i := 784) (by decide +kernel), List.mem_of_getElem? (i := 1145) (by decide +kernel), List.mem_of_getElem? (i := 1146) (by decide +kernel)⟩
theorem lw_p98 : lw_okq (⟨"BindingServerModel", "fine", "()Z"⟩, 37) := ⟨⟨by decide +kernel, by decide +kernel⟩, List.mem_of_getElem? (i := 784) (by decide +kernel), List.mem_of_getElem? (i := 1149) (by decide +kernel), List.mem_of_getElem? (i := 1150) (by decide +kernel)⟩
theorem lw_p99 : lw_okq (⟨"BindingServerModel", "resolved", "(I)I"⟩, 37) := ⟨⟨by decide +kernel, by decide +kernel⟩, List.mem_of_getElem? (i := 784) (by decide +kernel), List.mem_of_getElem? (i := 1153) (by decide +kernel), List.mem_of_getElem? (i := 1154) (by decide +kernel)⟩
theorem lw_p100 : lw_okq (⟨"BindingServerModel", "meant", "(I)I"⟩, 37) := ⟨⟨by decide +kernel, by decide +kernel⟩, List.mem_of_getElem? (i := 784) (by decide +kernel), List.mem_of_getElem? (i := 1157) (by decide +kernel), List.mem_of_getElem? (i := 1158) (by decide +kernel)⟩
theorem lw_p101 : lw_okq (⟨"BindingServerModel", "isKnown", "(I)Z"⟩, 37) := ⟨⟨by decide +kernel, by decide +kernel⟩, List.mem_of_getElem? (i := 784) (by decide +kernel), List.mem_of_getElem? (i := 1161) (by decide +kernel), List.mem_of_getElem? (i := 1162) (by decide +kernel)⟩
theorem lw_p102 : lw_okq (⟨"BindingServerModel", "binds", "(I)Z"⟩, 37) := ⟨⟨by decide +kernel, by decide +kernel⟩, List.mem_of_getElem? (i := 784) (by decide +kernel), List.mem_of_getElem? (i := 1165) (by decide +kernel), List.mem_of_getElem? (i := 1166) (by decide +kernel)⟩
theorem lw_p103 : lw_okq (⟨"BindingServerModel", "sameVariable", "(II)Z"⟩, 37) := ⟨⟨by decide +kernel, by decide +kernel⟩, List.mem_of_getElem? (i := 784) (by decide +kernel), List.mem_of_getElem? (i := 1173) (by decide +kernel), List.mem_of_getElem? (i := 1174) (by decide +kernel)⟩
theorem lw_p104 : lw_okq (⟨"BindingServerModel", "noted", "(Z)Z"⟩, 37) := ⟨⟨by decide +kernel, by decide +kernel⟩, List.mem_of_getElem? (i := 784) (by decide +kernel), List.mem_of_getElem? (i := 1188) (by decide +kernel), List.mem_of_getElem? (i := 1189) (by decide +kernel)⟩
theorem lw_p105 : lw_okq (⟨"BindingServerModel", "renamed", "(IIIJ)Z"⟩, 37) := ⟨⟨by decide +kernel, by decide +kernel⟩, List.mem_of_getElem? (i := 784) (by decide +kernel), List.mem_of_getElem? (i := 1192) (by decide +kernel), List.mem_of_getElem? (i := 1193) (by decide +kernel)⟩
def lw_privs_7 : List (MethodName × Nat) := [(⟨"BindingServerModel", "smallerThan", "(II)I"⟩, 37), (⟨"BindingServerModel", "occurrence", "(I)I"⟩, 37), (⟨"BindingServerModel", "fine", "()Z"⟩, 37), (⟨"BindingServerModel", "resolved", "(I)I"⟩, 37), (⟨"BindingServerModel", "meant", "(I)I"⟩, 37), (⟨"BindingServerModel", "isKnown", "(I)Z"⟩, 37), (⟨"BindingServerModel", "binds", "(I)Z"⟩, 37), (⟨"BindingServerModel", "sameVariable", "(II)Z"⟩, 37), (⟨"BindingServerModel", "noted", "(Z)Z"⟩, 37), (⟨"BindingServerModel", "renamed", "(IIIJ)Z"⟩, 37)]
theorem lw_r7 : ∀ q ∈ lw_privs_7, lw_okq q := List.forall_mem_cons.mpr ⟨lw_p96, List.forall_mem_cons.mpr ⟨lw_p97, List.forall_mem_cons.mpr ⟨lw_p98, List.forall_mem_cons.mpr ⟨lw_p99, List.forall_mem_cons.mpr ⟨lw_p100, List.forall_mem_cons.mpr ⟨lw_p101, List.forall_mem_cons.mpr ⟨lw_p102, List.forall_mem_cons.mpr ⟨lw_p103, List.forall_mem_cons.mpr ⟨lw_p104, List.forall_mem_cons.mpr ⟨lw_p105, fun _ h => absurd h List.not_mem_nil⟩⟩⟩⟩⟩⟩⟩⟩⟩⟩
def lw_privs : List (MethodName × Nat) := lw_privs_1 ++ (lw_privs_2 ++ (lw_privs_3 ++ (lw_privs_4 ++ (lw_privs_5 ++ (lw_privs_6 ++ (lw_privs_7))))))
def lw_tbl : List Cond := k2_sels lw_privs ++ tables_1
theorem lw_privs_ok : ∀ q ∈ lw_privs, lw_okq q := by
  show ∀ q ∈ lw_privs_1 ++ (lw_privs_2 ++ (lw_privs_3 ++ (lw_privs_4 ++ (lw_privs_5 ++ (lw_privs_6 ++ (lw_privs_7)))))), lw_okq q
  exact List.forall_mem_append.mpr ⟨lw_r1, List.forall_mem_append.mpr ⟨lw_r2, List.forall_mem_append.mpr ⟨lw_r3, List.forall_mem_append.mpr ⟨lw_r4, List.forall_mem_append.mpr ⟨lw_r5, List.forall_mem_append.mpr ⟨lw_r6, lw_r7⟩⟩⟩⟩⟩⟩
-- ===== end of PART A; then your names; then what follows =====
end
section
/-! THE ABSTRACT MACHINE. Its heap: a list of cells; an array of ints (false) or chars (true), or an object (its class's number, its fields). Its addresses: 0 the script, 1 the table of words, k + 2 the cell k. -/
abbrev am_E : Type := (Bool × List Int32) ⊕ (Nat × List Value)
/-- what an instruction links to: two numbers, the place of its word in the tables, a constant -/
abbrev am_X : Type := Nat × Nat × Nat × Value
abbrev am_I : Type := Nat × Instr × Nat × am_X
abbrev am_M : Type := MethodName × ByteArray × Nat × Option FieldType × List am_I
/-- methods, classes, types of their fields, the script (none: it isn't looked at), the table of words -/
abbrev am_C : Type := List am_M × List vw_C × (Nat → Nat → FieldType) × Option (List Int32) × List Int64
abbrev am_V : Type := List (Nat × Value)
abbrev am_Z : Type := Nat × am_V × List Value × List am_E
def am_ix : List am_I → Nat → Option (Instr × Nat × am_X)
  | [], _ => none
  | q :: r, pc => bif q.1 == pc then some q.2 else am_ix r pc
def am_at (C : am_C) (mi pc : Nat) : Option (Instr × Nat × am_X) := match C.1[mi]? with
  | some M => am_ix M.2.2.2.2 pc
  | none => none
def am_rt (C : am_C) (mi : Nat) : Option FieldType := match C.1[mi]? with
  | some M => M.2.2.2.1
  | none => none
def am_ob (h : List am_E) (a : Nat) : Option (Nat × List Value) := match a with
  | k + 2 => (match h[k]? with
    | some (.inr o) => some o
    | _ => none)
  | _ => none
def am_ar (h : List am_E) (a : Nat) : Option (Bool × List Int32) := match a with
  | k + 2 => (match h[k]? with
    | some (.inl o) => some o
    | _ => none)
  | _ => none
def am_lk : am_V → Nat → Option Value
  | [], _ => none
  | q :: r, i => bif q.1 == i then some q.2 else am_lk r i
def am_c2 (lv : am_V) (i : Nat) : Bool := match i with
  | 0 => false
  | j + 1 => (match am_lk lv j with
    | some v => v.category == 2
    | none => false)
def am_s1 (lv : am_V) (i : Nat) (v : Value) : am_V := (i, v) :: lv.filter (fun q => !(q.1 == i) && !(q.1 + 1 == i && (q.2.category == 2 || am_c2 lv i)))
def am_s2 (lv : am_V) (i : Nat) (v : Value) : am_V := (i, v) :: lv.filter (fun q => !(q.1 == i) && (!(q.1 == i + 1) && !(q.1 + 1 == i && (q.2.category == 2 || am_c2 lv i))))
def am_ca (st : List Value) : Nat := (st.map fun v => v.category).sum
def am_if (c : ClassFile.Cond) (x y : Int32) : Bool := match c with
  | .eq => decide (x = y)
  | .ne => decide (¬ x = y)
  | .lt => decide (x < y)
  | .ge => decide (y ≤ x)
  | .gt => decide (y < x)
  | .le => decide (x ≤ y)
def am_to (pc : Nat) (o : Int) : Option Nat := match (pc : Int) + o with
  | .ofNat t => some t
  | .negSucc _ => none
/-- does a value fit a field of the type -/
def am_fi (ty : FieldType) (v : Value) : Bool := match ty with
  | .int => (match v with
    | .int _ => true
    | _ => false)
  | .boolean => (match v with
    | .int n => decide (n = 0) || decide (n = 1)
    | _ => false)
  | .object _ => (match v with
    | .ref _ => true
    | _ => false)
  | .array _ => (match v with
    | .ref _ => true
    | _ => false)
  | _ => false
-- the kinds of steps
def am_ii (f : Int32 → Int32 → Option Int32) (pc : Nat) (lv : am_V) (st : List Value) (h : List am_E) : Option am_Z := match st with
  | .int y :: .int x :: r => (match f x y with
    | some v => some (pc + 1, lv, .int v :: r, h)
    | none => none)
  | _ => none
def am_ll (f : Int64 → Int64 → Value) (pc : Nat) (lv : am_V) (st : List Value) (h : List am_E) : Option am_Z := match st with
  | .long y :: .long x :: r => some (pc + 1, lv, f x y :: r, h)
  | _ => none
def am_li (f : Int64 → Int32 → Int64) (pc : Nat) (lv : am_V) (st : List Value) (h : List am_E) : Option am_Z := match st with
  | .int y :: .long x :: r => some (pc + 1, lv, .long (f x y) :: r, h)
  | _ => none
def am_ui (f : Int32 → Value) (pc : Nat) (lv : am_V) (st : List Value) (h : List am_E) : Option am_Z := match st with
  | .int x :: r => some (pc + 1, lv, f x :: r, h)
  | _ => none
def am_ul (f : Int64 → Value) (pc : Nat) (lv : am_V) (st : List Value) (h : List am_E) : Option am_Z := match st with
  | .long x :: r => some (pc + 1, lv, f x :: r, h)
  | _ => none
def am_li1 (lv : am_V) (i pc : Nat) (st : List Value) (h : List am_E) : Option am_Z := match am_lk lv i with
  | some (.int v) => some (pc, lv, .int v :: st, h)
  | _ => none
def am_ll1 (lv : am_V) (i pc : Nat) (st : List Value) (h : List am_E) : Option am_Z := match am_lk lv i with
  | some (.long v) => some (pc, lv, .long v :: st, h)
  | _ => none
def am_la1 (lv : am_V) (i pc : Nat) (st : List Value) (h : List am_E) : Option am_Z := match am_lk lv i with
  | some (.ref v) => some (pc, lv, .ref v :: st, h)
  | _ => none
def am_si1 (lv : am_V) (i pc : Nat) (st : List Value) (h : List am_E) : Option am_Z := match st with
  | .int v :: r => some (pc, am_s1 lv i (.int v), r, h)
  | _ => none
def am_sl1 (lv : am_V) (i pc : Nat) (st : List Value) (h : List am_E) : Option am_Z := match st with
  | .long v :: r => some (pc, am_s2 lv i (.long v), r, h)
  | _ => none
def am_sa1 (lv : am_V) (i pc : Nat) (st : List Value) (h : List am_E) : Option am_Z := match st with
  | .ref v :: r => some (pc, am_s1 lv i (.ref v), r, h)
  | _ => none
def am_inc (lv : am_V) (i : Nat) (n : Int) (pc : Nat) (st : List Value) (h : List am_E) : Option am_Z := match am_lk lv i with
  | some (.int v) => some (pc + 3, am_s1 lv i (.int (v + Int32.ofInt n)), st, h)
  | _ => none
def am_b1 (c : ClassFile.Cond) (tgt pc : Nat) (lv : am_V) (st : List Value) (h : List am_E) : Option am_Z := match st with
  | .int x :: r => some (bif am_if c x 0 then tgt else pc + 3, lv, r, h)
  | _ => none
def am_b2 (c : ClassFile.Cond) (tgt pc : Nat) (lv : am_V) (st : List Value) (h : List am_E) : Option am_Z := match st with
  | .int y :: .int x :: r => some (bif am_if c x y then tgt else pc + 3, lv, r, h)
  | _ => none
def am_ts (dflt lo hi : Int) (offs : Array Int) (pc : Nat) (x : Int32) : Option Nat :=
  if x.toInt < lo ∨ hi < x.toInt then am_to pc dflt else (match offs[(x.toInt - lo).toNat]? with
    | some o => am_to pc o
    | none => none)
def am_sw (f : Int32 → Option Nat) (lv : am_V) (st : List Value) (h : List am_E) : Option am_Z := match st with
  | .int x :: r => (match f x with
    | some tgt => some (tgt, lv, r, h)
    | none => none)
  | _ => none
def am_dup (pc : Nat) (lv : am_V) (st : List Value) (h : List am_E) : Option am_Z := match st with
  | v :: r => bif v.category == 1 then some (pc + 1, lv, v :: v :: r, h) else none
  | _ => none
def am_pop (pc : Nat) (lv : am_V) (st : List Value) (h : List am_E) : Option am_Z := match st with
  | v :: r => bif v.category == 1 then some (pc + 1, lv, r, h) else none
  | _ => none
def am_get (ci k pc : Nat) (lv : am_V) (st : List Value) (h : List am_E) : Option am_Z := match st with
  | .ref a :: r => (match am_ob h a with
    | some o => bif o.1 == ci then (match o.2[k]? with
      | some v => some (pc + 3, lv, v :: r, h)
      | none => none) else none
    | none => none)
  | _ => none
def am_put (ty : FieldType) (ci k pc : Nat) (lv : am_V) (st : List Value) (h : List am_E) : Option am_Z := match st with
  | v :: .ref a :: r => (match am_ob h a with
    | some o => bif o.1 == ci && (decide (k < o.2.length) && am_fi ty v) then some (pc + 3, lv, r, h.set (a - 2) (.inr (ci, o.2.set k v))) else none
    | none => none)
  | _ => none
def am_ld (tg : Bool) (xs : Option (List Int32)) (pc : Nat) (lv : am_V) (st : List Value) (h : List am_E) : Option am_Z := match st with
  | .int i :: .ref a :: r => bif decide (i < 0) then none else (match a with
    | 0 => bif tg then none else (match xs.bind (fun l => l[i.toNatClampNeg]?) with
      | some v => some (pc + 1, lv, .int v :: r, h)
      | none => none)
    | a => (match am_ar h a with
      | some o => bif o.1 == tg then (match o.2[i.toNatClampNeg]? with
        | some v => some (pc + 1, lv, .int v :: r, h)
        | none => none) else none
      | none => none))
  | _ => none
def am_lld (wd : List Int64) (pc : Nat) (lv : am_V) (st : List Value) (h : List am_E) : Option am_Z := match st with
  | .int i :: .ref 1 :: r => bif decide (i < 0) then none else (match wd[i.toNatClampNeg]? with
    | some v => some (pc + 1, lv, .long v :: r, h)
    | none => none)
  | _ => none
def am_sto (tg : Bool) (pc : Nat) (lv : am_V) (st : List Value) (h : List am_E) : Option am_Z := match st with
  | .int v :: .int i :: .ref a :: r => (match am_ar h a with
    | some o => bif o.1 == tg && (!decide (i < 0) && decide (i.toNatClampNeg < o.2.length)) then
        some (pc + 1, lv, r, h.set (a - 2) (.inl (tg, o.2.set i.toNatClampNeg (bif tg then vp_nar .char v else v)))) else none
    | none => none)
  | _ => none
def am_len (xs : Option (List Int32)) (wd : List Int64) (pc : Nat) (lv : am_V) (st : List Value) (h : List am_E) : Option am_Z := match st with
  | .ref a :: r => (match a with
    | 0 => (match xs with
      | some l => some (pc + 1, lv, .int (Int32.ofNat l.length) :: r, h)
      | none => none)
    | 1 => some (pc + 1, lv, .int (Int32.ofNat wd.length) :: r, h)
    | a => (match am_ar h a with
      | some o => some (pc + 1, lv, .int (Int32.ofNat o.2.length) :: r, h)
      | none => none))
  | _ => none
def am_max (d pc : Nat) (lv : am_V) (st : List Value) (h : List am_E) : Option am_Z := match st with
  | .int y :: .int x :: r => bif decide (1 ≤ d) && decide (am_ca r ≤ 8) then some (pc + 3, lv, .int (if x < y then y else x) :: r, h) else none
  | _ => none
def am_oi (d pc : Nat) (lv : am_V) (st : List Value) (h : List am_E) : Option am_Z := match st with
  | .ref _ :: r => bif decide (1 ≤ d) && decide (am_ca r ≤ 8) then some (pc + 3, lv, r, h) else none
  | _ => none
/-- n values of f from place sp on, laid into g from place dp on -/
def am_cp (f g : List Int32) (sp dp n : Nat) : List Int32 := g.take dp ++ ((f.drop sp).take n ++ g.drop (dp + n))
def am_acp (d pc : Nat) (lv : am_V) (st : List Value) (h : List am_E) : Option am_Z := match st with
  | .int n :: .int dp :: .ref a :: .int sp :: .ref b :: r => (match am_ar h a, am_ar h b with
    | some o, some q => bif (o.1 && q.1) && ((decide (1 ≤ d) && decide (am_ca r ≤ 8)) && ((!decide (sp < 0) && (!decide (dp < 0) && !decide (n < 0))) && ((decide (sp.toNatClampNeg + n.toNatClampNeg ≤ q.2.length) && decide (dp.toNatClampNeg + n.toNatClampNeg ≤ o.2.length)) && ((q.2.drop sp.toNatClampNeg).take n.toNatClampNeg).all (fun z => fits .char (.int z))))) then
        some (pc + 3, lv, r, h.set (a - 2) (.inl (true, am_cp q.2 o.2 sp.toNatClampNeg dp.toNatClampNeg n.toNatClampNeg))) else none
    | _, _ => none)
  | _ => none
def am_cal (C : am_C) (cal : Nat) (vs rest : List Value) : Option (Nat × List Value × List Value) := match C.1[cal]? with
  | some M => bif decide ((lg_sl vs).length ≤ M.2.2.1) && decide (am_ca rest ≤ 8) then some (cal, vs, rest) else none
  | none => none
def am_cv (C : am_C) (cal n ci : Nat) (st : List Value) (h : List am_E) : Option (Nat × List Value × List Value) := match st.drop n with
  | .ref a :: r => (match am_ob h a with
    | some o => bif o.1 == ci then am_cal C cal (.ref a :: (st.take n).reverse) r else none
    | none => none)
  | _ => none
def am_ci (C : am_C) (cal n : Nat) (st : List Value) : Option (Nat × List Value × List Value) := match st.drop n with
  | .ref a :: r => am_cal C cal (.ref a :: (st.take n).reverse) r
  | _ => none
def am_cs (C : am_C) (cal n : Nat) (st : List Value) : Option (Nat × List Value × List Value) := bif decide (n ≤ st.length) then am_cal C cal (st.take n).reverse (st.drop n) else none
def am_na (ty : ArrayType) (pc : Nat) (st : List Value) : Option (Nat × List Value × am_E × Nat) := match st with
  | .int n :: r => bif !decide (n < 0) && decide (n.toNatClampNeg ≤ 100000) then (match ty with
    | .int => some (pc + 2, r, .inl (false, List.replicate n.toNatClampNeg 0), n.toNatClampNeg)
    | .char => some (pc + 2, r, .inl (true, List.replicate n.toNatClampNeg 0), n.toNatClampNeg)
    | _ => none) else none
  | _ => none
def am_new (C : am_C) (ci pc : Nat) (st : List Value) : Option (Nat × List Value × am_E × Nat) := match C.2.1[ci]? with
  | some q => some (pc + 3, st, .inr (ci, (List.range q.2.2).map (fun j => defaultValue (C.2.2.1 ci j))), q.2.2)
  | none => none
def am_ri (ret : Option FieldType) (st : List Value) : Option (Option Value) := match st with
  | [.int v] => (match ret with
    | some .int => some (some (.int v))
    | some .boolean => bif decide (v = 0) || decide (v = 1) then some (some (.int v)) else none
    | _ => none)
  | _ => none
def am_rl (ret : Option FieldType) (st : List Value) : Option (Option Value) := match st with
  | [.long v] => (match ret with
    | some .long => some (some (.long v))
    | _ => none)
  | _ => none
def am_rv (ret : Option FieldType) (st : List Value) : Option (Option Value) := match st with
  | [] => (match ret with
    | none => some none
    | _ => none)
  | _ => none
/-- which kind an instruction is of: a step, a call, a making, an end -/
def am_kd (i : Instr) (x : am_X) : Nat := match i with
  | .invokevirtual _ => 1
  | .invokespecial _ => bif x.1 == 1002 then 0 else 1
  | .invokestatic _ => bif x.1 == 1000 then 0 else bif x.1 == 1001 then 0 else 1
  | .newarray _ => 2
  | .new _ => 2
  | .ireturn => 3
  | .lreturn => 3
  | .return_ => 3
  | _ => 0
/-- one instruction -/
def am_do (C : am_C) (d : Nat) (i : Instr) (x : am_X) (pc : Nat) (lv : am_V) (st : List Value) (h : List am_E) : Option am_Z := match i with
  | .iconst _ => some (pc + 1, lv, x.2.2.2 :: st, h)
  | .bipush _ => some (pc + 2, lv, x.2.2.2 :: st, h)
  | .sipush _ => some (pc + 3, lv, x.2.2.2 :: st, h)
  | .lconst _ => some (pc + 1, lv, x.2.2.2 :: st, h)
  | .ldc2_w _ => some (pc + 3, lv, x.2.2.2 :: st, h)
  | .iload_n k => am_li1 lv k (pc + 1) st h
  | .iload k => am_li1 lv k (pc + 2) st h
  | .lload_n k => am_ll1 lv k (pc + 1) st h
  | .lload k => am_ll1 lv k (pc + 2) st h
  | .aload_n k => am_la1 lv k (pc + 1) st h
  | .aload k => am_la1 lv k (pc + 2) st h
  | .istore_n k => am_si1 lv k (pc + 1) st h
  | .istore k => am_si1 lv k (pc + 2) st h
  | .lstore_n k => am_sl1 lv k (pc + 1) st h
  | .lstore k => am_sl1 lv k (pc + 2) st h
  | .astore_n k => am_sa1 lv k (pc + 1) st h
  | .astore k => am_sa1 lv k (pc + 2) st h
  | .iinc k n => am_inc lv k n pc st h
  | .iadd => am_ii (fun x y => some (x + y)) pc lv st h
  | .isub => am_ii (fun x y => some (x - y)) pc lv st h
  | .imul => am_ii (fun x y => some (x * y)) pc lv st h
  | .iand => am_ii (fun x y => some (x &&& y)) pc lv st h
  | .ior => am_ii (fun x y => some (x ||| y)) pc lv st h
  | .idiv => am_ii (fun x y => if y = 0 then none else some (x / y)) pc lv st h
  | .irem => am_ii (fun x y => if y = 0 then none else some (x - x / y * y)) pc lv st h
  | .ladd => am_ll (fun x y => .long (x + y)) pc lv st h
  | .lmul => am_ll (fun x y => .long (x * y)) pc lv st h
  | .land => am_ll (fun x y => .long (x &&& y)) pc lv st h
  | .lor => am_ll (fun x y => .long (x ||| y)) pc lv st h
  | .lcmp => am_ll (fun x y => .int (lg_cmp x y)) pc lv st h
  | .lshl => am_li (fun x y => x <<< (y.toInt64 &&& 63)) pc lv st h
  | .lushr => am_li (fun x y => (x.toUInt64 >>> (y.toInt64.toUInt64 &&& Int64.toUInt64 63)).toInt64) pc lv st h
  | .i2l => am_ui (fun x => .long x.toInt64) pc lv st h
  | .i2c => am_ui (fun x => .int (x.toUInt32 % 65536).toInt32) pc lv st h
  | .l2i => am_ul (fun x => .int x.toInt32) pc lv st h
  | .ifCond c _ => am_b1 c x.1 pc lv st h
  | .if_icmp c _ => am_b2 c x.1 pc lv st h
  | .goto _ => some (x.1, lv, st, h)
  | .tableswitch dflt lo hi offs => am_sw (am_ts dflt lo hi offs pc) lv st h
  | .lookupswitch dflt ps => am_sw (fun a => am_to pc (Op.lookupswitch.offset ps.toList dflt a.toInt)) lv st h
  | .dup => am_dup pc lv st h
  | .pop => am_pop pc lv st h
  | .getfield _ => am_get x.1 x.2.1 pc lv st h
  | .putfield _ => am_put (C.2.2.1 x.1 x.2.1) x.1 x.2.1 pc lv st h
  | .getstatic _ => some (pc + 3, lv, .ref 1 :: st, h)
  | .iaload => am_ld false C.2.2.2.1 pc lv st h
  | .caload => am_ld true C.2.2.2.1 pc lv st h
  | .laload => am_lld C.2.2.2.2 pc lv st h
  | .iastore => am_sto false pc lv st h
  | .castore => am_sto true pc lv st h
  | .arraylength => am_len C.2.2.2.1 C.2.2.2.2 pc lv st h
  | .invokespecial _ => am_oi d pc lv st h
  | .invokestatic _ => bif x.1 == 1000 then am_max d pc lv st h else am_acp d pc lv st h
  | _ => none
def am_dc (C : am_C) (i : Instr) (x : am_X) (st : List Value) (h : List am_E) : Option (Nat × List Value × List Value) := match i with
  | .invokevirtual _ => (match x.2.2.2 with
    | .ref ci => am_cv C x.1 x.2.1 ci st h
    | _ => none)
  | .invokespecial _ => am_ci C x.1 x.2.1 st
  | .invokestatic _ => am_cs C x.1 x.2.1 st
  | _ => none
def am_dn (C : am_C) (i : Instr) (x : am_X) (pc : Nat) (st : List Value) : Option (Nat × List Value × am_E × Nat) := match i with
  | .newarray ty => am_na ty pc st
  | .new _ => am_new C x.1 pc st
  | _ => none
def am_dr (ret : Option FieldType) (i : Instr) (st : List Value) : Option (Option Value) := match i with
  | .ireturn => am_ri ret st
  | .lreturn => am_rl ret st
  | .return_ => am_rv ret st
  | _ => none
/-- a method's run from a frame of its own: with fuel n and d frames left; what it returns, the heap, cells and slots made -/
def am_run (C : am_C) : Nat → Nat → Nat → Nat → am_V → List Value → List am_E → Option (Option Value × List am_E × Nat × Nat)
  | 0, _, _, _, _, _, _ => none
  | n + 1, d, mi, pc, lv, st, h => match am_at C mi pc with
    | none => none
    | some q => match am_kd q.1 q.2.2 with
      | 0 => (match am_do C d q.1 q.2.2 pc lv st h with
        | none => none
        | some r => am_run C n d mi r.1 r.2.1 r.2.2.1 r.2.2.2)
      | 1 => (match am_dc C q.1 q.2.2 st h with
        | none => none
        | some r => match d with
          | 0 => none
          | d1 + 1 => match am_run C n d1 r.1 0 (lv_args 0 r.2.1) [] h with
            | none => none
            | some o => match am_run C n (d1 + 1) mi (pc + 3) lv (o.1.toList ++ r.2.2) o.2.1 with
              | none => none
              | some z => some (z.1, z.2.1, o.2.2.1 + z.2.2.1, o.2.2.2 + z.2.2.2))
      | 2 => (match am_dn C q.1 q.2.2 pc st with
        | none => none
        | some r => match am_run C n d mi r.1 lv (.ref (h.length + 2) :: r.2.1) (h ++ [r.2.2.1]) with
          | none => none
          | some z => some (z.1, z.2.1, 1 + z.2.2.1, r.2.2.2 + z.2.2.2))
      | _ => (match am_dr (am_rt C mi) q.1 st with
        | none => none
        | some r => some (r, h, 0, 0))
end
section
/-! How the abstract machine's values and cells lie in the real heap: the cell k at the address base + k. -/
def am_tr (base b t : Nat) (v : Value) : Value := match v with
  | .ref a => (match a with
    | 0 => .ref b
    | 1 => .ref t
    | k + 2 => .ref (base + k))
  | v => v
theorem am_tr_cat (base b t : Nat) (v : Value) : (am_tr base b t v).category = v.category := by
  cases v with
  | ref a =>
    match a with
    | 0 => rfl
    | 1 => rfl
    | k + 2 => rfl
  | _ => rfl
def am_lm (base b t : Nat) (lv : am_V) : am_V := lv.map (fun q => (q.1, am_tr base b t q.2))
theorem am_lk_mem {lv : am_V} {i : Nat} {v : Value} (h : am_lk lv i = some v) : (i, v) ∈ lv := by
  induction lv with
  | nil => cases h
  | cons q r ih =>
    obtain ⟨j, w⟩ := q
    have h2 : (bif j == i then some w else am_lk r i) = some v := h
    clear h
    cases hq : (j == i) with
    | true =>
      rw [hq, cond_true] at h2
      have e := eq_of_beq hq
      subst e
      cases h2
      exact List.mem_cons_self
    | false =>
      rw [hq, cond_false] at h2
      exact List.mem_cons_of_mem _ (ih h2)
theorem am_lk_at {base b t nL : Nat} {ls : Array Slot} {lv : am_V} (hl : lv_has ls nL (am_lm base b t lv)) {i : Nat} {v : Value} (h : am_lk lv i = some v) : ls[i]? = some (.val (am_tr base b t v)) :=
  hl.2.2 (i, am_tr base b t v) (List.mem_map.mpr ⟨(i, v), am_lk_mem h, rfl⟩)
theorem am_lk_ix {base b t : Nat} {lv : am_V} {i : Nat} {v : Value} (h : am_lk lv i = some v) : ∃ k : Nat, (am_lm base b t lv)[k]? = some (i, am_tr base b t v) :=
  List.getElem?_of_mem (List.mem_map.mpr ⟨(i, v), am_lk_mem h, rfl⟩)
theorem am_s1_has {base b t nL : Nat} {ls : Array Slot} {lv : am_V} {i : Nat} {v : Value} (h : lv_has ls nL ((i, am_tr base b t v) :: (am_lm base b t lv).filter (fun q => !(q.1 == i) && !(q.1 + 1 == i && q.2.category == 2)))) : lv_has ls nL (am_lm base b t (am_s1 lv i v)) := by
  refine ⟨h.1, h.2.1, fun q hq => h.2.2 q ?_⟩
  obtain ⟨w, hw, rfl⟩ := List.mem_map.mp hq
  rcases List.mem_cons.mp hw with rfl | hw
  · exact List.mem_cons_self
  · refine List.mem_cons_of_mem _ ?_
    obtain ⟨h1, h2⟩ := List.mem_filter.mp hw
    refine List.mem_filter.mpr ⟨List.mem_map.mpr ⟨w, h1, rfl⟩, ?_⟩
    simp only [am_tr_cat]
    revert h2
    cases (w.1 == i) <;> cases (w.1 + 1 == i) <;> cases (w.2.category == 2) <;> cases (am_c2 lv i) <;> simp
theorem am_s2_has {base b t nL : Nat} {ls : Array Slot} {lv : am_V} {i : Nat} {v : Value} (h : lv_has ls nL ((i, am_tr base b t v) :: (am_lm base b t lv).filter (fun q => !(q.1 == i) && (!(q.1 == i + 1) && !(q.1 + 1 == i && q.2.category == 2))))) : lv_has ls nL (am_lm base b t (am_s2 lv i v)) := by
  refine ⟨h.1, h.2.1, fun q hq => h.2.2 q ?_⟩
  obtain ⟨w, hw, rfl⟩ := List.mem_map.mp hq
  rcases List.mem_cons.mp hw with rfl | hw
  · exact List.mem_cons_self
  · refine List.mem_cons_of_mem _ ?_
    obtain ⟨h1, h2⟩ := List.mem_filter.mp hw
    refine List.mem_filter.mpr ⟨List.mem_map.mpr ⟨w, h1, rfl⟩, ?_⟩
    simp only [am_tr_cat]
    revert h2
    cases (w.1 == i) <;> cases (w.1 == i + 1) <;> cases (w.1 + 1 == i) <;> cases (w.2.category == 2) <;> cases (am_c2 lv i) <;> simp
theorem am_ca_tr (base b t : Nat) (st : List Value) : ((st.map (am_tr base b t)).map fun v => v.category).sum = am_ca st := by
  unfold am_ca
  rw [List.map_map]
  refine congrArg List.sum ?_
  apply List.map_congr_left
  intro v _
  exact am_tr_cat base b t v
theorem am_sl_tr (base b t : Nat) (vs : List Value) : (lg_sl (vs.map (am_tr base b t))).length = (lg_sl vs).length := by
  induction vs with
  | nil => rfl
  | cons v r ih =>
    have e : ∀ (w : Value) (u : List Value), (lg_sl (w :: u)).length = (if w.category = 2 then 2 else 1) + (lg_sl u).length := by
      intro w u
      unfold lg_sl
      rw [List.flatMap_cons, List.length_append]
      split <;> rfl
    rw [List.map_cons, e, e, ih, am_tr_cat]
theorem am_args_tr (base b t : Nat) (vs : List Value) : ∀ i : Nat, lv_args i (vs.map (am_tr base b t)) = am_lm base b t (lv_args i vs) := by
  induction vs with
  | nil => intro i; rfl
  | cons v r ih =>
    intro i
    show (i, am_tr base b t v) :: lv_args (if (am_tr base b t v).category = 2 then i + 2 else i + 1) (r.map (am_tr base b t)) = (i, am_tr base b t v) :: am_lm base b t (lv_args (if v.category = 2 then i + 2 else i + 1) r)
    rw [ih, am_tr_cat]
def am_e (base b t : Nat) (cI cC : ClassId) (e : am_E) : va_E := match e with
  | .inl o => .inl (bif o.1 then cC else cI, o.2.length, .inl (fun j => o.2.getD j 0))
  | .inr o => .inr (o.1, o.2.map (am_tr base b t))
def am_w (base b t : Nat) (cI cC : ClassId) (h : List am_E) : va_W := h.mapIdx (fun k e => (base + k, am_e base b t cI cC e))
theorem am_w_get (base b t : Nat) (cI cC : ClassId) (h : List am_E) (k : Nat) : (am_w base b t cI cC h)[k]? = (h[k]?).map (fun e => (base + k, am_e base b t cI cC e)) := by
  unfold am_w
  rw [List.getElem?_mapIdx]
theorem am_w_at {base b t : Nat} {cI cC : ClassId} {h : List am_E} {k : Nat} {e : am_E} (hk : h[k]? = some e) : (am_w base b t cI cC h)[k]? = some (base + k, am_e base b t cI cC e) := by
  rw [am_w_get, hk]
  rfl
def am_A (base : Nat) : Nat → Prop := fun q => base ≤ q
theorem am_w_D (base b t : Nat) (cI cC : ClassId) (h : List am_E) : va_D (am_A base) (am_w base b t cI cC h) := by
  refine ⟨fun i j p q hp hq e => ?_, fun k q hq => ?_⟩
  · rw [am_w_get] at hp hq
    obtain ⟨e1, -, rfl⟩ := Option.map_eq_some_iff.mp hp
    obtain ⟨e2, -, rfl⟩ := Option.map_eq_some_iff.mp hq
    exact Nat.add_left_cancel e
  · rw [am_w_get] at hq
    obtain ⟨e1, -, rfl⟩ := Option.map_eq_some_iff.mp hq
    exact Nat.le_add_right base k
theorem am_w_set (base b t : Nat) (cI cC : ClassId) (h : List am_E) (k : Nat) (e : am_E) : am_w base b t cI cC (h.set k e) = (am_w base b t cI cC h).set k (base + k, am_e base b t cI cC e) := by
  apply List.ext_getElem?
  intro j
  rw [am_w_get, List.getElem?_set, List.getElem?_set, am_w_get]
  have hlen : (am_w base b t cI cC h).length = h.length := by unfold am_w; rw [List.length_mapIdx]
  rw [hlen]
  by_cases hj : k = j
  · subst hj
    rw [if_pos rfl, if_pos rfl]
    by_cases hk : k < h.length
    · rw [if_pos hk, if_pos hk]
      rfl
    · rw [if_neg hk, if_neg hk]
      rfl
  · rw [if_neg hj, if_neg hj]
theorem am_w_push (base b t : Nat) (cI cC : ClassId) (h : List am_E) (e : am_E) : am_w base b t cI cC (h ++ [e]) = am_w base b t cI cC h ++ [(base + h.length, am_e base b t cI cC e)] := by
  unfold am_w
  rw [List.mapIdx_concat]
def am_Old (C : am_C) (base b t : Nat) (U : State) (H : Heap) : Prop :=
  va_X b (C.2.2.2.1.getD []).length (fun j => (C.2.2.2.1.getD []).getD j 0) U H ∧ b < base ∧ va_T .long t C.2.2.2.2.length (fun j => .long (C.2.2.2.2.getD j 0)) (am_A base) U H ∧ va_Z "BindingServer$Tokens" "WORDS" "[J" (.ref t) (am_A base) U H
theorem am_Old.moved {C : am_C} {base b t : Nat} {u U : State} {H : Heap} (hvm : u.vm.Alike U.vm) (h : am_Old C base b t u H) : am_Old C base b t U H := ⟨h.1.moved hvm, h.2.1, h.2.2.1.moved hvm, h.2.2.2.moved hvm⟩
theorem am_Old.kept {C : am_C} {base b t : Nat} {U : State} {H H1 : Heap} (h : am_Old C base b t U H) (hq : ∀ a : Nat, a < H.size → ¬ am_A base a → H1[a]? = H[a]?) : am_Old C base b t U H1 := by
  obtain ⟨h1, h2, h3, h4⟩ := h
  have hb : b < H.size := by
    obtain ⟨scr, q, -⟩ := h1
    exact (Array.getElem?_eq_some_iff.mp q).1
  exact ⟨h1.kept (hq b hb (Nat.not_le.mpr h2)), h2, h3.kept hq, h4.kept hq⟩
/-- what stays while a method runs -/
def am_F (C : am_C) (G : List Cond) (D : va_G) (cI cC : ClassId) (base b t : Nat) (p : Program) (s : State) (m : MethodId) (args : Array Value) (meth : Method) (c : Code) (M : am_M) : Prop :=
  p.tables.exec = Jvm.exec ∧ c.code = M.2.1 ∧ c.maxLocals = M.2.2.1 ∧ s.vm.findClass M.1.cls = some m.cls ∧ (∀ w ∈ G, w.before args s = true) ∧ meth.sig.returnType = M.2.2.2.1 ∧ meth.locks = false ∧ (M.1.name = "<init>" → meth.name = "<init>") ∧ va_K D C.2.1 [(cI, .int), (cC, .char)] s ∧ am_Old C base b t s s.heap ∧ base ≤ s.heap.size
/-- where it is -/
def am_N (C : am_C) (D : va_G) (cI cC : ClassId) (base b t : Nat) (s : State) (cells : Nat) (h : List am_E) (H : Heap) (locs : List Loc) : Prop := va_P D C.2.1 (am_w base b t cI cC h) H ∧ s.heap.size + cells = base + h.length ∧ va_S (am_A base) s.heap H locs
/-- no larger than what was made -/
theorem am_small {p : Program} {l : Launch} {e : Env} {R : Room} {s : State} {m : MethodId} {args : Array Value} {below : List Frame} {meth : Method} {c : Code} {H : Heap} {locs : List Loc} {cells slots : Nat} {Q : State → Prop} {g : JFrame} (k : H.size ≤ s.heap.size + cells → W p l e R s m args below meth c H locs cells slots Q g) : W p l e R s m args below meth c H locs cells slots Q g := fun T hT X => k (by
  have h3 : T.heap.size ≤ s.heap.size + cells := X.same.2.2.1
  rw [← hT]
  exact h3) T hT X
theorem am_N.size {C : am_C} {D : va_G} {cI cC : ClassId} {base b t : Nat} {s : State} {cells : Nat} {h : List am_E} {H : Heap} {locs : List Loc} (I : am_N C D cI cC base b t s cells h H locs) (hbs : base ≤ s.heap.size) (hz : H.size ≤ s.heap.size + cells) : H.size = base + h.length := by
  obtain ⟨h1, h2, h3⟩ := I
  apply Nat.le_antisymm
  · rw [← h2]; exact hz
  · cases hh : h.length with
    | zero => exact Nat.le_trans hbs h3.1
    | succ n =>
      have hlt : n < h.length := by omega
      have hq := (h1 n _ (am_w_at (List.getElem?_eq_getElem hlt))).lt
      have hq : base + n < H.size := hq
      omega
-- what the tables must say
def am_fl (C : am_C) (G : List Cond) (M : am_M) (k : Nat) (x : am_X) : Prop := ∃ q : vw_C, C.2.1[x.1]? = some q ∧ x.2.1 < q.2.2 ∧ Cond.fieldLink M.1.cls k q.1 (q.2.1 x.2.1).2.1 (q.2.1 x.2.1).2.2.1 ∈ G
abbrev am_pd (y : MethodName) (n : Nat) : Prop := (parseMethodDescriptor y.desc).map (fun d => d.parameters.length) = some n
def am_lo (C : am_C) (G : List Cond) (M : am_M) (pc : Nat) (i : Instr) (len : Nat) (x : am_X) : Prop := match i with
  | .iconst n => len = 1 ∧ x.2.2.2 = .int (Int32.ofInt n)
  | .bipush n => len = 2 ∧ x.2.2.2 = .int (Int8.ofInt n).toInt32
  | .sipush n => len = 3 ∧ x.2.2.2 = .int (Int16.ofInt n).toInt32
  | .lconst n => len = 1 ∧ x.2.2.2 = .long (Int64.ofNat (n : Nat))
  | .ldc2_w k => len = 3 ∧ ∃ v : Int64, x.2.2.2 = .long v ∧ Cond.constantLong M.1.cls k v ∈ G
  | .iload _ => len = 2
  | .lload _ => len = 2
  | .aload _ => len = 2
  | .istore_n k => len = 1 ∧ (k : Nat) < M.2.2.1
  | .istore k => len = 2 ∧ k < M.2.2.1
  | .lstore_n k => len = 1 ∧ (k : Nat) + 1 < M.2.2.1
  | .lstore k => len = 2 ∧ k + 1 < M.2.2.1
  | .astore_n k => len = 1 ∧ (k : Nat) < M.2.2.1
  | .astore k => len = 2 ∧ k < M.2.2.1
  | .iinc k _ => len = 3 ∧ k < M.2.2.1
  | .ifCond _ o => len = 3 ∧ (pc : Int) + o = (x.1 : Int)
  | .if_icmp _ o => len = 3 ∧ (pc : Int) + o = (x.1 : Int)
  | .goto o => len = 3 ∧ (pc : Int) + o = (x.1 : Int)
  | .tableswitch _ _ _ _ => True
  | .lookupswitch _ ps => (ps.toList.zip (ps.toList.drop 1)).all (fun (a, next) => a.1 < next.1) = true
  | .getfield k => len = 3 ∧ am_fl C G M k x
  | .putfield k => len = 3 ∧ am_fl C G M k x ∧ ∃ q : vw_C, C.2.1[x.1]? = some q ∧ ((q.2.1 x.2.1).2.2.2 = false ∨ (q.2.1 x.2.1).2.2.2 = true ∧ M.1.name = "<init>" ∧ q.1 = M.1.cls)
  | .getstatic k => len = 3 ∧ Cond.fieldLink M.1.cls k "BindingServer$Tokens" "WORDS" "[J" ∈ G
  | .newarray _ => len = 2
  | .new k => len = 3 ∧ ∃ q : vw_C, C.2.1[x.1]? = some q ∧ Cond.classLink M.1.cls k q.1 ∈ G
  | .invokevirtual k => len = 3 ∧ x.1 ≠ 0 ∧ ∃ (N : am_M) (ci : Nat) (q : vw_C), C.1[x.1]? = some N ∧ x.2.2.2 = .ref ci ∧ C.2.1[ci]? = some q ∧ q.1 = N.1.cls ∧ Cond.methodLink M.1.cls k N.1 ∈ G ∧ Cond.instanceMethod N.1 ∈ G ∧ Cond.selects N.1.cls N.1 N.1 ∈ G ∧ am_pd N.1 x.2.1
  | .invokespecial k => len = 3 ∧ (x.1 = 1002 ∧ Cond.methodLink M.1.cls k objectInit ∈ G ∨ x.1 ≠ 1002 ∧ x.1 ≠ 0 ∧ ∃ N : am_M, C.1[x.1]? = some N ∧ Cond.methodLink M.1.cls k N.1 ∈ G ∧ Cond.instanceMethod N.1 ∈ G ∧ N.1.name = "<init>" ∧ N.2.2.2.1 = none ∧ am_pd N.1 x.2.1)
  | .invokestatic k => len = 3 ∧ (x.1 = 1000 ∧ Cond.methodLink M.1.cls k Lib.Math.max.name ∈ G ∨ x.1 = 1001 ∧ Cond.methodLink M.1.cls k arraycopyName ∈ G ∨ x.1 ≠ 1000 ∧ x.1 ≠ 1001 ∧ x.1 ≠ 0 ∧ ∃ N : am_M, C.1[x.1]? = some N ∧ Cond.methodLink M.1.cls k N.1 ∈ G ∧ Cond.static N.1 ∈ G ∧ am_pd N.1 x.2.1)
  | _ => len = 1
def am_ok (C : am_C) (G : List Cond) (M : am_M) (q : am_I) : Prop := decode M.2.1 q.1 = .ok (q.2.1, q.2.2.1) ∧ am_lo C G M q.1 q.2.1 q.2.2.1 q.2.2.2
def am_mc (G : List Cond) (M : am_M) : Prop := Cond.code M.1 M.2.1 M.2.2.1 M.2.2.2.1 ∈ G ∧ Cond.initialized M.1.cls ∈ G ∧ plainName M.1.cls = true ∧ (M.1.cls ≠ "java/lang/invoke/MethodHandle" ∧ M.1.cls ≠ "java/lang/invoke/VarHandle") ∧ M.2.2.1 ≤ 45
def am_co (C : am_C) (G : List Cond) (ci : Nat) (q : vw_C) : Prop := (∀ w ∈ u_ws q.1 q.2.1 q.2.2, w ∈ G) ∧ (∀ k, k < q.2.2 → parseFieldDescriptor (q.2.1 k).2.2.1 = some (C.2.2.1 ci k)) ∧ (∀ a, a < q.2.2 → ∀ b, b < q.2.2 → a ≠ b → (q.2.1 a).2.1 ≠ (q.2.1 b).2.1) ∧ Cond.instantiable q.1 q.2.2 ∈ G ∧ Cond.initialized q.1 ∈ G ∧ (∀ k, k < q.2.2 → (q.2.1 k).1 = q.1)
def am_go (G : List Cond) : Prop := (∀ w ∈ G, ((w.onTables && w.keeps) = true ∨ ∃ ty, w = .arrayClass ty)) ∧ Cond.instanceMethod objectInit ∈ G ∧ Cond.code objectInit ⟨#[0xb1]⟩ 1 none ∈ G ∧ Cond.static Lib.Math.max.name ∈ G ∧ Cond.initialized "java/lang/Math" ∈ G ∧ Cond.code Lib.Math.max.name Lib.Math.max.code 2 (some .int) ∈ G ∧ Cond.native arraycopyName ∈ G ∧ Cond.static arraycopyName ∈ G ∧ Cond.initialized "java/lang/System" ∈ G ∧ Cond.arrayClass .int ∈ G ∧ Cond.arrayClass .char ∈ G
def am_OK (C : am_C) (G : List Cond) : Prop := am_go G ∧ (∀ (ci : Nat) (q : vw_C), C.2.1[ci]? = some q → am_co C G ci q) ∧ ∀ (mi : Nat) (M : am_M), C.1[mi]? = some M → (∀ q ∈ M.2.2.2.2, am_ok C G M q) ∧ (mi ≠ 0 → am_mc G M)
theorem am_ix_mem {l : List am_I} {pc : Nat} {q : Instr × Nat × am_X} (h : am_ix l pc = some q) : (pc, q) ∈ l := by
  induction l with
  | nil => cases h
  | cons a r ih =>
    obtain ⟨j, w⟩ := a
    have h2 : (bif j == pc then some w else am_ix r pc) = some q := h
    clear h
    cases hq : (j == pc) with
    | true =>
      rw [hq, cond_true] at h2
      have e := eq_of_beq hq
      subst e
      cases h2
      exact List.mem_cons_self
    | false =>
      rw [hq, cond_false] at h2
      exact List.mem_cons_of_mem _ (ih h2)
theorem am_fi_ok (base b t : Nat) {ty : FieldType} {v : Value} (h : am_fi ty v = true) : narrow ty (am_tr base b t v) = am_tr base b t v ∧ fits ty (am_tr base b t v) = true := by
  cases ty with
  | int =>
    cases v with
    | int n => exact ⟨rfl, rfl⟩
    | _ => cases h
  | boolean =>
    cases v with
    | int n =>
      have h : (decide (n = 0) || decide (n = 1)) = true := h
      rw [Bool.or_eq_true, decide_eq_true_eq, decide_eq_true_eq] at h
      rcases h with rfl | rfl
      · exact ⟨(by decide +kernel : narrow .boolean (.int 0) = .int 0), (by decide +kernel : fits .boolean (.int 0) = true)⟩
      · exact ⟨(by decide +kernel : narrow .boolean (.int 1) = .int 1), (by decide +kernel : fits .boolean (.int 1) = true)⟩
    | _ => cases h
  | object n =>
    cases v with
    | ref a =>
      match a with
      | 0 => exact ⟨rfl, rfl⟩
      | 1 => exact ⟨rfl, rfl⟩
      | k + 2 => exact ⟨rfl, rfl⟩
    | _ => cases h
  | array n =>
    cases v with
    | ref a =>
      match a with
      | 0 => exact ⟨rfl, rfl⟩
      | 1 => exact ⟨rfl, rfl⟩
      | k + 2 => exact ⟨rfl, rfl⟩
    | _ => cases h
  | _ => cases h
theorem am_ob_at {h : List am_E} {a : Nat} {o : Nat × List Value} (e : am_ob h a = some o) : ∃ k, a = k + 2 ∧ h[k]? = some (.inr o) := by
  match a with
  | 0 => cases e
  | 1 => cases e
  | k + 2 =>
    refine ⟨k, rfl, ?_⟩
    have e : (match h[k]? with
      | some (.inr o) => some o
      | _ => none) = some o := e
    split at e
    next q hq => cases e; exact hq
    next => cases e
theorem am_ar_at {h : List am_E} {a : Nat} {o : Bool × List Int32} (e : am_ar h a = some o) : ∃ k, a = k + 2 ∧ h[k]? = some (.inl o) := by
  match a with
  | 0 => cases e
  | 1 => cases e
  | k + 2 =>
    refine ⟨k, rfl, ?_⟩
    have e : (match h[k]? with
      | some (.inl o) => some o
      | _ => none) = some o := e
    split at e
    next q hq => cases e; exact hq
    next => cases e
theorem am_to_eq {pc : Nat} {o : Int} {tgt : Nat} (h : am_to pc o = some tgt) : (pc : Int) + o = (tgt : Int) := by
  unfold am_to at h
  split at h
  next k hk => cases h; exact hk
  next => cases h
end
section
/-! What a step that went on must have seen. -/
theorem am_ii_inv {f : Int32 → Int32 → Option Int32} {pc : Nat} {lv : am_V} {st : List Value} {h : List am_E} {z : Nat × am_V × List Value × List am_E} (hdo : am_ii f pc lv st h = some z) : ∃ (x y v : Int32) (r : List Value), st = .int y :: .int x :: r ∧ f x y = some v ∧ z = (pc + 1, lv, .int v :: r, h) := by
  rcases st with _ | ⟨v0, r⟩
  · exact absurd hdo (by simp [am_ii])
  · cases v0 with
    | int y =>
      rcases r with _ | ⟨v1, r⟩
      · exact absurd hdo (by simp [am_ii])
      · cases v1 with
        | int x =>
          simp only [am_ii] at hdo
          cases hf : f x y with
          | none => rw [hf] at hdo; exact absurd hdo (by simp)
          | some v =>
            rw [hf] at hdo
            exact ⟨x, y, v, r, rfl, hf, (Option.some.inj hdo).symm⟩
        | _ => exact absurd hdo (by simp [am_ii])
    | _ => exact absurd hdo (by simp [am_ii])
theorem am_ll_inv {f : Int64 → Int64 → Value} {pc : Nat} {lv : am_V} {st : List Value} {h : List am_E} {z : Nat × am_V × List Value × List am_E} (hdo : am_ll f pc lv st h = some z) : ∃ (x y : Int64) (r : List Value), st = .long y :: .long x :: r ∧ z = (pc + 1, lv, f x y :: r, h) := by
  rcases st with _ | ⟨v0, r⟩
  · exact absurd hdo (by simp [am_ll])
  · cases v0 with
    | long y =>
      rcases r with _ | ⟨v1, r⟩
      · exact absurd hdo (by simp [am_ll])
      · cases v1 with
        | long x => exact ⟨x, y, r, rfl, (Option.some.inj hdo).symm⟩
        | _ => exact absurd hdo (by simp [am_ll])
    | _ => exact absurd hdo (by simp [am_ll])
theorem am_li_inv {f : Int64 → Int32 → Int64} {pc : Nat} {lv : am_V} {st : List Value} {h : List am_E} {z : Nat × am_V × List Value × List am_E} (hdo : am_li f pc lv st h = some z) : ∃ (x : Int64) (y : Int32) (r : List Value), st = .int y :: .long x :: r ∧ z = (pc + 1, lv, .long (f x y) :: r, h) := by
  rcases st with _ | ⟨v0, r⟩
  · exact absurd hdo (by simp [am_li])
  · cases v0 with
    | int y =>
      rcases r with _ | ⟨v1, r⟩
      · exact absurd hdo (by simp [am_li])
      · cases v1 with
        | long x => exact ⟨x, y, r, rfl, (Option.some.inj hdo).symm⟩
        | _ => exact absurd hdo (by simp [am_li])
    | _ => exact absurd hdo (by simp [am_li])
theorem am_ui_inv {f : Int32 → Value} {pc : Nat} {lv : am_V} {st : List Value} {h : List am_E} {z : Nat × am_V × List Value × List am_E} (hdo : am_ui f pc lv st h = some z) : ∃ (x : Int32) (r : List Value), st = .int x :: r ∧ z = (pc + 1, lv, f x :: r, h) := by
  rcases st with _ | ⟨v0, r⟩
  · exact absurd hdo (by simp [am_ui])
  · cases v0 with
    | int x => exact ⟨x, r, rfl, (Option.some.inj hdo).symm⟩
    | _ => exact absurd hdo (by simp [am_ui])
theorem am_ul_inv {f : Int64 → Value} {pc : Nat} {lv : am_V} {st : List Value} {h : List am_E} {z : Nat × am_V × List Value × List am_E} (hdo : am_ul f pc lv st h = some z) : ∃ (x : Int64) (r : List Value), st = .long x :: r ∧ z = (pc + 1, lv, f x :: r, h) := by
  rcases st with _ | ⟨v0, r⟩
  · exact absurd hdo (by simp [am_ul])
  · cases v0 with
    | long x => exact ⟨x, r, rfl, (Option.some.inj hdo).symm⟩
    | _ => exact absurd hdo (by simp [am_ul])
theorem am_li1_inv {lv : am_V} {i pc : Nat} {st : List Value} {h : List am_E} {z : Nat × am_V × List Value × List am_E} (hdo : am_li1 lv i pc st h = some z) : ∃ v : Int32, am_lk lv i = some (.int v) ∧ z = (pc, lv, .int v :: st, h) := by
  unfold am_li1 at hdo
  cases hv : am_lk lv i with
  | none => rw [hv] at hdo; exact absurd hdo (by simp)
  | some w =>
    rw [hv] at hdo
    cases w with
    | int v => exact ⟨v, rfl, (Option.some.inj hdo).symm⟩
    | _ => exact absurd hdo (by simp)
theorem am_ll1_inv {lv : am_V} {i pc : Nat} {st : List Value} {h : List am_E} {z : Nat × am_V × List Value × List am_E} (hdo : am_ll1 lv i pc st h = some z) : ∃ v : Int64, am_lk lv i = some (.long v) ∧ z = (pc, lv, .long v :: st, h) := by
  unfold am_ll1 at hdo
  cases hv : am_lk lv i with
  | none => rw [hv] at hdo; exact absurd hdo (by simp)
  | some w =>
    rw [hv] at hdo
    cases w with
    | long v => exact ⟨v, rfl, (Option.some.inj hdo).symm⟩
    | _ => exact absurd hdo (by simp)
theorem am_la1_inv {lv : am_V} {i pc : Nat} {st : List Value} {h : List am_E} {z : Nat × am_V × List Value × List am_E} (hdo : am_la1 lv i pc st h = some z) : ∃ v : Nat, am_lk lv i = some (.ref v) ∧ z = (pc, lv, .ref v :: st, h) := by
  unfold am_la1 at hdo
  cases hv : am_lk lv i with
  | none => rw [hv] at hdo; exact absurd hdo (by simp)
  | some w =>
    rw [hv] at hdo
    cases w with
    | ref v => exact ⟨v, rfl, (Option.some.inj hdo).symm⟩
    | _ => exact absurd hdo (by simp)
theorem am_inc_inv {lv : am_V} {i : Nat} {n : Int} {pc : Nat} {st : List Value} {h : List am_E} {z : Nat × am_V × List Value × List am_E} (hdo : am_inc lv i n pc st h = some z) : ∃ v : Int32, am_lk lv i = some (.int v) ∧ z = (pc + 3, am_s1 lv i (.int (v + Int32.ofInt n)), st, h) := by
  unfold am_inc at hdo
  cases hv : am_lk lv i with
  | none => rw [hv] at hdo; exact absurd hdo (by simp)
  | some w =>
    rw [hv] at hdo
    cases w with
    | int v => exact ⟨v, rfl, (Option.some.inj hdo).symm⟩
    | _ => exact absurd hdo (by simp)
theorem am_si1_inv {lv : am_V} {i pc : Nat} {st : List Value} {h : List am_E} {z : Nat × am_V × List Value × List am_E} (hdo : am_si1 lv i pc st h = some z) : ∃ (v : Int32) (r : List Value), st = .int v :: r ∧ z = (pc, am_s1 lv i (.int v), r, h) := by
  rcases st with _ | ⟨v0, r⟩
  · exact absurd hdo (by simp [am_si1])
  · cases v0 with
    | int x => exact ⟨x, r, rfl, (Option.some.inj hdo).symm⟩
    | _ => exact absurd hdo (by simp [am_si1])
theorem am_sl1_inv {lv : am_V} {i pc : Nat} {st : List Value} {h : List am_E} {z : Nat × am_V × List Value × List am_E} (hdo : am_sl1 lv i pc st h = some z) : ∃ (v : Int64) (r : List Value), st = .long v :: r ∧ z = (pc, am_s2 lv i (.long v), r, h) := by
  rcases st with _ | ⟨v0, r⟩
  · exact absurd hdo (by simp [am_sl1])
  · cases v0 with
    | long x => exact ⟨x, r, rfl, (Option.some.inj hdo).symm⟩
    | _ => exact absurd hdo (by simp [am_sl1])
theorem am_sa1_inv {lv : am_V} {i pc : Nat} {st : List Value} {h : List am_E} {z : Nat × am_V × List Value × List am_E} (hdo : am_sa1 lv i pc st h = some z) : ∃ (v : Nat) (r : List Value), st = .ref v :: r ∧ z = (pc, am_s1 lv i (.ref v), r, h) := by
  rcases st with _ | ⟨v0, r⟩
  · exact absurd hdo (by simp [am_sa1])
  · cases v0 with
    | ref x => exact ⟨x, r, rfl, (Option.some.inj hdo).symm⟩
    | _ => exact absurd hdo (by simp [am_sa1])
theorem am_b1_inv {c : ClassFile.Cond} {tgt pc : Nat} {lv : am_V} {st : List Value} {h : List am_E} {z : Nat × am_V × List Value × List am_E} (hdo : am_b1 c tgt pc lv st h = some z) : ∃ (x : Int32) (r : List Value), st = .int x :: r ∧ z = (bif am_if c x 0 then tgt else pc + 3, lv, r, h) := by
  rcases st with _ | ⟨v0, r⟩
  · exact absurd hdo (by simp [am_b1])
  · cases v0 with
    | int x => exact ⟨x, r, rfl, (Option.some.inj hdo).symm⟩
    | _ => exact absurd hdo (by simp [am_b1])
theorem am_b2_inv {c : ClassFile.Cond} {tgt pc : Nat} {lv : am_V} {st : List Value} {h : List am_E} {z : Nat × am_V × List Value × List am_E} (hdo : am_b2 c tgt pc lv st h = some z) : ∃ (x y : Int32) (r : List Value), st = .int y :: .int x :: r ∧ z = (bif am_if c x y then tgt else pc + 3, lv, r, h) := by
  rcases st with _ | ⟨v0, r⟩
  · exact absurd hdo (by simp [am_b2])
  · cases v0 with
    | int y =>
      rcases r with _ | ⟨v1, r⟩
      · exact absurd hdo (by simp [am_b2])
      · cases v1 with
        | int x => exact ⟨x, y, r, rfl, (Option.some.inj hdo).symm⟩
        | _ => exact absurd hdo (by simp [am_b2])
    | _ => exact absurd hdo (by simp [am_b2])
theorem am_sw_inv {f : Int32 → Option Nat} {lv : am_V} {st : List Value} {h : List am_E} {z : Nat × am_V × List Value × List am_E} (hdo : am_sw f lv st h = some z) : ∃ (x : Int32) (tgt : Nat) (r : List Value), st = .int x :: r ∧ f x = some tgt ∧ z = (tgt, lv, r, h) := by
  rcases st with _ | ⟨v0, r⟩
  · exact absurd hdo (by simp [am_sw])
  · cases v0 with
    | int x =>
      simp only [am_sw] at hdo
      cases hf : f x with
      | none => rw [hf] at hdo; exact absurd hdo (by simp)
      | some v =>
        rw [hf] at hdo
        exact ⟨x, v, r, rfl, hf, (Option.some.inj hdo).symm⟩
    | _ => exact absurd hdo (by simp [am_sw])
theorem am_dup_inv {pc : Nat} {lv : am_V} {st : List Value} {h : List am_E} {z : Nat × am_V × List Value × List am_E} (hdo : am_dup pc lv st h = some z) : ∃ (v : Value) (r : List Value), st = v :: r ∧ v.category = 1 ∧ z = (pc + 1, lv, v :: v :: r, h) := by
  rcases st with _ | ⟨v, r⟩
  · exact absurd hdo (by simp [am_dup])
  · simp only [am_dup] at hdo
    cases hc : (v.category == 1) with
    | false => rw [hc] at hdo; exact absurd hdo (by simp)
    | true =>
      rw [hc] at hdo
      exact ⟨v, r, rfl, eq_of_beq hc, (Option.some.inj hdo).symm⟩
theorem am_pop_inv {pc : Nat} {lv : am_V} {st : List Value} {h : List am_E} {z : Nat × am_V × List Value × List am_E} (hdo : am_pop pc lv st h = some z) : ∃ (v : Value) (r : List Value), st = v :: r ∧ v.category = 1 ∧ z = (pc + 1, lv, r, h) := by
  rcases st with _ | ⟨v, r⟩
  · exact absurd hdo (by simp [am_pop])
  · simp only [am_pop] at hdo
    cases hc : (v.category == 1) with
    | false => rw [hc] at hdo; exact absurd hdo (by simp)
    | true =>
      rw [hc] at hdo
      exact ⟨v, r, rfl, eq_of_beq hc, (Option.some.inj hdo).symm⟩
theorem am_get_inv {ci k pc : Nat} {lv : am_V} {st : List Value} {h : List am_E} {z : Nat × am_V × List Value × List am_E} (hdo : am_get ci k pc lv st h = some z) : ∃ (j : Nat) (r fs : List Value) (v : Value), st = .ref (j + 2) :: r ∧ h[j]? = some (.inr (ci, fs)) ∧ fs[k]? = some v ∧ z = (pc + 3, lv, v :: r, h) := by
  rcases st with _ | ⟨v0, r⟩
  · exact absurd hdo (by simp [am_get])
  · cases v0 with
    | ref a =>
      simp only [am_get] at hdo
      cases ho : am_ob h a with
      | none => rw [ho] at hdo; exact absurd hdo (by simp)
      | some o =>
        obtain ⟨j, rfl, hj⟩ := am_ob_at ho
        rw [ho] at hdo
        cases hc : (o.1 == ci) with
        | false => exact absurd hdo (by simp [hc])
        | true =>
          cases hv : o.2[k]? with
          | none => exact absurd hdo (by simp [hc, hv])
          | some v =>
            have hd2 : (some (pc + 3, lv, v :: r, h) : Option am_Z) = some z := by simpa only [hc, hv, cond_true] using hdo
            have e := eq_of_beq hc
            subst e
            exact ⟨j, r, o.2, v, rfl, hj, hv, (Option.some.inj hd2).symm⟩
    | _ => exact absurd hdo (by simp [am_get])
theorem am_put_inv {ty : FieldType} {ci k pc : Nat} {lv : am_V} {st : List Value} {h : List am_E} {z : Nat × am_V × List Value × List am_E} (hdo : am_put ty ci k pc lv st h = some z) : ∃ (j : Nat) (r fs : List Value) (v : Value), st = v :: .ref (j + 2) :: r ∧ h[j]? = some (.inr (ci, fs)) ∧ k < fs.length ∧ am_fi ty v = true ∧ z = (pc + 3, lv, r, h.set j (.inr (ci, fs.set k v))) := by
  rcases st with _ | ⟨v, r⟩
  · exact absurd hdo (by simp [am_put])
  · rcases r with _ | ⟨v0, r⟩
    · exact absurd hdo (by simp [am_put])
    · cases v0 with
      | ref a =>
        simp only [am_put] at hdo
        cases ho : am_ob h a with
        | none => rw [ho] at hdo; exact absurd hdo (by simp)
        | some o =>
          obtain ⟨j, rfl, hj⟩ := am_ob_at ho
          rw [ho] at hdo
          cases hc : (o.1 == ci && (decide (k < o.2.length) && am_fi ty v)) with
          | false =>
            have hdo : (bif (o.1 == ci && (decide (k < o.2.length) && am_fi ty v)) then (some (pc + 3, lv, r, h.set (j + 2 - 2) (.inr (ci, o.2.set k v))) : Option am_Z) else none) = some z := hdo
            rw [hc] at hdo
            exact absurd hdo (by simp)
          | true =>
            have hdo : (bif (o.1 == ci && (decide (k < o.2.length) && am_fi ty v)) then (some (pc + 3, lv, r, h.set (j + 2 - 2) (.inr (ci, o.2.set k v))) : Option am_Z) else none) = some z := hdo
            rw [hc] at hdo
            rw [Bool.and_eq_true, Bool.and_eq_true, decide_eq_true_eq] at hc
            have e := eq_of_beq hc.1
            subst e
            exact ⟨j, r, o.2, v, rfl, hj, hc.2.1, hc.2.2, (Option.some.inj hdo).symm⟩
      | _ => exact absurd hdo (by simp [am_put])
theorem am_ld_inv {tg : Bool} {xs : Option (List Int32)} {pc : Nat} {lv : am_V} {st : List Value} {h : List am_E} {z : Nat × am_V × List Value × List am_E} (hdo : am_ld tg xs pc lv st h = some z) : ∃ (i : Int32) (r : List Value) (v : Int32), ¬ i < 0 ∧ z = (pc + 1, lv, .int v :: r, h) ∧ ((st = .int i :: .ref 0 :: r ∧ tg = false ∧ (xs.getD [])[i.toNatClampNeg]? = some v) ∨ ∃ (j : Nat) (a : List Int32), st = .int i :: .ref (j + 2) :: r ∧ h[j]? = some (.inl (tg, a)) ∧ a[i.toNatClampNeg]? = some v) := by
  rcases st with _ | ⟨v0, r⟩
  · exact absurd hdo (by simp [am_ld])
  · cases v0 with
    | int i =>
      rcases r with _ | ⟨v1, r⟩
      · exact absurd hdo (by simp [am_ld])
      · cases v1 with
        | ref a =>
          cases hi : decide (i < 0) with
          | true => exact absurd hdo (by simp [am_ld, of_decide_eq_true hi])
          | false =>
            have hi' : ¬ i < 0 := of_decide_eq_false hi
            match a, hdo with
            | 0, hdo =>
              cases tg with
              | true => exact absurd hdo (by simp [am_ld])
              | false =>
                cases xs with
                | none => exact absurd hdo (by simp [am_ld])
                | some l0 =>
                  cases hv : l0[i.toNatClampNeg]? with
                  | none => exact absurd hdo (by simp [am_ld, hv])
                  | some v =>
                    have hdo : (some (pc + 1, lv, Value.int v :: r, h) : Option am_Z) = some z := by simpa [am_ld, hv, hi'] using hdo
                    exact ⟨i, r, v, hi', (Option.some.inj hdo).symm, Or.inl ⟨rfl, rfl, hv⟩⟩
            | 1, hdo => exact absurd hdo (by simp [am_ld, am_ar])
            | j + 2, hdo =>
              cases ho : am_ar h (j + 2) with
              | none => exact absurd hdo (by simp [am_ld, ho])
              | some o =>
                obtain ⟨j', e', hj⟩ := am_ar_at ho
                obtain rfl : j = j' := Nat.add_right_cancel e'
                cases hc : (o.1 == tg) with
                | false => exact absurd hdo (by simp [am_ld, ho, hc])
                | true =>
                  cases hv : o.2[i.toNatClampNeg]? with
                  | none => exact absurd hdo (by simp [am_ld, ho, hc, hv])
                  | some v =>
                    have hd2 : (some (pc + 1, lv, Value.int v :: r, h) : Option am_Z) = some z := by simpa [am_ld, ho, hc, hv, hi'] using hdo
                    have e := eq_of_beq hc
                    subst e
                    exact ⟨i, r, v, hi', (Option.some.inj hd2).symm, Or.inr ⟨j, o.2, rfl, hj, hv⟩⟩
        | _ => exact absurd hdo (by simp [am_ld])
    | _ => exact absurd hdo (by simp [am_ld])
theorem am_lld_inv {wd : List Int64} {pc : Nat} {lv : am_V} {st : List Value} {h : List am_E} {z : Nat × am_V × List Value × List am_E} (hdo : am_lld wd pc lv st h = some z) : ∃ (i : Int32) (r : List Value) (v : Int64), ¬ i < 0 ∧ z = (pc + 1, lv, .long v :: r, h) ∧ st = .int i :: .ref 1 :: r ∧ wd[i.toNatClampNeg]? = some v := by
  rcases st with _ | ⟨v0, r⟩
  · exact absurd hdo (by simp [am_lld])
  · cases v0 with
    | int i =>
      rcases r with _ | ⟨v1, r⟩
      · exact absurd hdo (by simp [am_lld])
      · cases v1 with
        | ref a =>
          cases hi : decide (i < 0) with
          | true =>
            match a, hdo with
            | 0, hdo => exact absurd hdo (by simp [am_lld])
            | 1, hdo => exact absurd hdo (by simp [am_lld, of_decide_eq_true hi])
            | j + 2, hdo => exact absurd hdo (by simp [am_lld])
          | false =>
            have hi' : ¬ i < 0 := of_decide_eq_false hi
            match a, hdo with
            | 0, hdo => exact absurd hdo (by simp [am_lld])
            | 1, hdo =>
              cases hv : wd[i.toNatClampNeg]? with
              | none => exact absurd hdo (by simp [am_lld, hv])
              | some v =>
                have hdo : (some (pc + 1, lv, Value.long v :: r, h) : Option am_Z) = some z := by simpa [am_lld, hv, hi'] using hdo
                exact ⟨i, r, v, hi', (Option.some.inj hdo).symm, rfl, hv⟩
            | j + 2, hdo => exact absurd hdo (by simp [am_lld])
        | _ => exact absurd hdo (by simp [am_lld])
    | _ => exact absurd hdo (by simp [am_lld])
theorem am_sto_inv {tg : Bool} {pc : Nat} {lv : am_V} {st : List Value} {h : List am_E} {z : Nat × am_V × List Value × List am_E} (hdo : am_sto tg pc lv st h = some z) : ∃ (i v : Int32) (r : List Value) (j : Nat) (a : List Int32), ¬ i < 0 ∧ st = .int v :: .int i :: .ref (j + 2) :: r ∧ h[j]? = some (.inl (tg, a)) ∧ i.toNatClampNeg < a.length ∧ z = (pc + 1, lv, r, h.set j (.inl (tg, a.set i.toNatClampNeg (bif tg then vp_nar .char v else v)))) := by
  rcases st with _ | ⟨v0, r⟩
  · exact absurd hdo (by simp [am_sto])
  · cases v0 with
    | int v =>
      rcases r with _ | ⟨v1, r⟩
      · exact absurd hdo (by simp [am_sto])
      · cases v1 with
        | int i =>
          rcases r with _ | ⟨v2, r⟩
          · exact absurd hdo (by simp [am_sto])
          · cases v2 with
            | ref a =>
              simp only [am_sto] at hdo
              cases ho : am_ar h a with
              | none => rw [ho] at hdo; exact absurd hdo (by simp)
              | some o =>
                obtain ⟨j, rfl, hj⟩ := am_ar_at ho
                rw [ho] at hdo
                have hdo : (bif o.1 == tg && (!decide (i < 0) && decide (i.toNatClampNeg < o.2.length)) then (some (pc + 1, lv, r, h.set (j + 2 - 2) (.inl (tg, o.2.set i.toNatClampNeg (bif tg then vp_nar .char v else v)))) : Option am_Z) else none) = some z := hdo
                cases hc : (o.1 == tg && (!decide (i < 0) && decide (i.toNatClampNeg < o.2.length))) with
                | false => rw [hc] at hdo; exact absurd hdo (by simp)
                | true =>
                  rw [hc] at hdo
                  rw [Bool.and_eq_true, Bool.and_eq_true, decide_eq_true_eq, Bool.not_eq_true', decide_eq_false_iff_not] at hc
                  have e := eq_of_beq hc.1
                  subst e
                  exact ⟨i, v, r, j, o.2, hc.2.1, rfl, hj, hc.2.2, (Option.some.inj hdo).symm⟩
            | _ => exact absurd hdo (by simp [am_sto])
        | _ => exact absurd hdo (by simp [am_sto])
    | _ => exact absurd hdo (by simp [am_sto])
theorem am_len_inv {xs : Option (List Int32)} {wd : List Int64} {pc : Nat} {lv : am_V} {st : List Value} {h : List am_E} {z : Nat × am_V × List Value × List am_E} (hdo : am_len xs wd pc lv st h = some z) : ∃ (r : List Value) (v : Int32), z = (pc + 1, lv, .int v :: r, h) ∧ ((st = .ref 0 :: r ∧ v = Int32.ofNat (xs.getD []).length) ∨ (st = .ref 1 :: r ∧ v = Int32.ofNat wd.length) ∨ ∃ (j : Nat) (o : Bool × List Int32), st = .ref (j + 2) :: r ∧ h[j]? = some (.inl o) ∧ v = Int32.ofNat o.2.length) := by
  rcases st with _ | ⟨v0, r⟩
  · exact absurd hdo (by simp [am_len])
  · cases v0 with
    | ref a =>
      match a, hdo with
      | 0, hdo =>
        cases xs with
        | none => exact absurd hdo (by simp [am_len])
        | some l0 => exact ⟨r, _, (Option.some.inj hdo).symm, Or.inl ⟨rfl, rfl⟩⟩
      | 1, hdo => exact ⟨r, _, (Option.some.inj hdo).symm, Or.inr (Or.inl ⟨rfl, rfl⟩)⟩
      | j + 2, hdo =>
        cases ho : am_ar h (j + 2) with
        | none => exact absurd hdo (by simp [am_len, ho])
        | some o =>
          obtain ⟨j', e', hj⟩ := am_ar_at ho
          obtain rfl : j = j' := Nat.add_right_cancel e'
          have hdo : (some (pc + 1, lv, Value.int (Int32.ofNat o.2.length) :: r, h) : Option am_Z) = some z := by simpa [am_len, ho] using hdo
          exact ⟨r, _, (Option.some.inj hdo).symm, Or.inr (Or.inr ⟨j, o, rfl, hj, rfl⟩)⟩
    | _ => exact absurd hdo (by simp [am_len])
theorem am_max_inv {d pc : Nat} {lv : am_V} {st : List Value} {h : List am_E} {z : Nat × am_V × List Value × List am_E} (hdo : am_max d pc lv st h = some z) : ∃ (x y : Int32) (r : List Value), st = .int y :: .int x :: r ∧ 1 ≤ d ∧ am_ca r ≤ 8 ∧ z = (pc + 3, lv, .int (if x < y then y else x) :: r, h) := by
  rcases st with _ | ⟨v0, r⟩
  · exact absurd hdo (by simp [am_max])
  · cases v0 with
    | int y =>
      rcases r with _ | ⟨v1, r⟩
      · exact absurd hdo (by simp [am_max])
      · cases v1 with
        | int x =>
          simp only [am_max] at hdo
          cases hc : (decide (1 ≤ d) && decide (am_ca r ≤ 8)) with
          | false => rw [hc] at hdo; exact absurd hdo (by simp)
          | true =>
            rw [hc] at hdo
            rw [Bool.and_eq_true, decide_eq_true_eq, decide_eq_true_eq] at hc
            exact ⟨x, y, r, rfl, hc.1, hc.2, (Option.some.inj hdo).symm⟩
        | _ => exact absurd hdo (by simp [am_max])
    | _ => exact absurd hdo (by simp [am_max])
theorem am_oi_inv {d pc : Nat} {lv : am_V} {st : List Value} {h : List am_E} {z : Nat × am_V × List Value × List am_E} (hdo : am_oi d pc lv st h = some z) : ∃ (a : Nat) (r : List Value), st = .ref a :: r ∧ 1 ≤ d ∧ am_ca r ≤ 8 ∧ z = (pc + 3, lv, r, h) := by
  rcases st with _ | ⟨v0, r⟩
  · exact absurd hdo (by simp [am_oi])
  · cases v0 with
    | ref a =>
      simp only [am_oi] at hdo
      cases hc : (decide (1 ≤ d) && decide (am_ca r ≤ 8)) with
      | false => rw [hc] at hdo; exact absurd hdo (by simp)
      | true =>
        rw [hc] at hdo
        rw [Bool.and_eq_true, decide_eq_true_eq, decide_eq_true_eq] at hc
        exact ⟨a, r, rfl, hc.1, hc.2, (Option.some.inj hdo).symm⟩
    | _ => exact absurd hdo (by simp [am_oi])
def am_acc (d : Nat) (r : List Value) (o q : Bool × List Int32) (sp dp n : Int32) : Bool := (o.1 && q.1) && ((decide (1 ≤ d) && decide (am_ca r ≤ 8)) && ((!decide (sp < 0) && (!decide (dp < 0) && !decide (n < 0))) && ((decide (sp.toNatClampNeg + n.toNatClampNeg ≤ q.2.length) && decide (dp.toNatClampNeg + n.toNatClampNeg ≤ o.2.length)) && ((q.2.drop sp.toNatClampNeg).take n.toNatClampNeg).all (fun z => fits .char (.int z)))))
theorem am_acp_inv {d pc : Nat} {lv : am_V} {st : List Value} {h : List am_E} {z : Nat × am_V × List Value × List am_E} (hdo : am_acp d pc lv st h = some z) : ∃ (n dp sp : Int32) (j k : Nat) (o q : Bool × List Int32) (r : List Value), st = .int n :: .int dp :: .ref (j + 2) :: .int sp :: .ref (k + 2) :: r ∧ h[j]? = some (.inl o) ∧ h[k]? = some (.inl q) ∧ am_acc d r o q sp dp n = true ∧ z = (pc + 3, lv, r, h.set j (.inl (true, am_cp q.2 o.2 sp.toNatClampNeg dp.toNatClampNeg n.toNatClampNeg))) := by
  rcases st with _ | ⟨v0, r⟩
  · exact absurd hdo (by simp [am_acp])
  cases v0 with
  | int n =>
    rcases r with _ | ⟨v1, r⟩
    · exact absurd hdo (by simp [am_acp])
    cases v1 with
    | int dp =>
      rcases r with _ | ⟨v2, r⟩
      · exact absurd hdo (by simp [am_acp])
      cases v2 with
      | ref a =>
        rcases r with _ | ⟨v3, r⟩
        · exact absurd hdo (by simp [am_acp])
        cases v3 with
        | int sp =>
          rcases r with _ | ⟨v4, r⟩
          · exact absurd hdo (by simp [am_acp])
          cases v4 with
          | ref bb =>
            simp only [am_acp] at hdo
            cases ho : am_ar h a with
            | none => rw [ho] at hdo; exact absurd hdo (by simp)
            | some o =>
              cases hq : am_ar h bb with
              | none => rw [ho, hq] at hdo; exact absurd hdo (by simp)
              | some q =>
                rw [ho, hq] at hdo
                obtain ⟨j, rfl, hj⟩ := am_ar_at ho
                obtain ⟨k, rfl, hk⟩ := am_ar_at hq
                have hdo : (bif am_acc d r o q sp dp n then (some (pc + 3, lv, r, h.set (j + 2 - 2) (.inl (true, am_cp q.2 o.2 sp.toNatClampNeg dp.toNatClampNeg n.toNatClampNeg))) : Option am_Z) else none) = some z := hdo
                cases hc : am_acc d r o q sp dp n with
                | false => rw [hc] at hdo; exact absurd hdo (by simp)
                | true =>
                  rw [hc] at hdo
                  exact ⟨n, dp, sp, j, k, o, q, r, rfl, hj, hk, hc, (Option.some.inj hdo).symm⟩
          | _ => exact absurd hdo (by simp [am_acp])
        | _ => exact absurd hdo (by simp [am_acp])
      | _ => exact absurd hdo (by simp [am_acp])
    | _ => exact absurd hdo (by simp [am_acp])
  | _ => exact absurd hdo (by simp [am_acp])
theorem am_cal_inv {C : am_C} {cal : Nat} {vs rest : List Value} {z : Nat × List Value × List Value} (hdo : am_cal C cal vs rest = some z) : ∃ N : am_M, C.1[cal]? = some N ∧ (lg_sl vs).length ≤ N.2.2.1 ∧ am_ca rest ≤ 8 ∧ z = (cal, vs, rest) := by
  unfold am_cal at hdo
  cases hN : C.1[cal]? with
  | none => rw [hN] at hdo; exact absurd hdo (by simp)
  | some N =>
    rw [hN] at hdo
    have hdo : (bif decide ((lg_sl vs).length ≤ N.2.2.1) && decide (am_ca rest ≤ 8) then some (cal, vs, rest) else none) = some z := hdo
    cases hc : (decide ((lg_sl vs).length ≤ N.2.2.1) && decide (am_ca rest ≤ 8)) with
    | false => rw [hc] at hdo; exact absurd hdo (by simp)
    | true =>
      rw [hc] at hdo
      rw [Bool.and_eq_true, decide_eq_true_eq, decide_eq_true_eq] at hc
      exact ⟨N, rfl, hc.1, hc.2, (Option.some.inj hdo).symm⟩
theorem am_cv_inv {C : am_C} {cal n ci : Nat} {st : List Value} {h : List am_E} {z : Nat × List Value × List Value} (hdo : am_cv C cal n ci st h = some z) : ∃ (j : Nat) (fs r : List Value) (N : am_M), st = (st.take n) ++ .ref (j + 2) :: r ∧ (st.take n).length = n ∧ h[j]? = some (.inr (ci, fs)) ∧ C.1[cal]? = some N ∧ (lg_sl (.ref (j + 2) :: (st.take n).reverse)).length ≤ N.2.2.1 ∧ am_ca r ≤ 8 ∧ z = (cal, .ref (j + 2) :: (st.take n).reverse, r) := by
  unfold am_cv at hdo
  cases hd : st.drop n with
  | nil => rw [hd] at hdo; exact absurd hdo (by simp)
  | cons v r =>
    rw [hd] at hdo
    have hlen : (st.take n).length = n := by
      have h1 : 0 < (st.drop n).length := by rw [hd]; exact Nat.zero_lt_succ _
      rw [List.length_drop] at h1
      rw [List.length_take]
      omega
    have hst : st = st.take n ++ (v :: r) := by rw [← hd]; exact (List.take_append_drop n st).symm
    cases v with
    | ref a =>
      simp only at hdo
      cases ho : am_ob h a with
      | none => rw [ho] at hdo; exact absurd hdo (by simp)
      | some o =>
        obtain ⟨j, rfl, hj⟩ := am_ob_at ho
        rw [ho] at hdo
        have hd2 : (bif o.1 == ci then am_cal C cal (.ref (j + 2) :: (st.take n).reverse) r else none) = some z := hdo
        cases hc : (o.1 == ci) with
        | false => rw [hc] at hd2; exact absurd hd2 (by simp)
        | true =>
          rw [hc, cond_true] at hd2
          have e := eq_of_beq hc
          subst e
          obtain ⟨N, h1, h2, h3, h4⟩ := am_cal_inv hd2
          exact ⟨j, o.2, r, N, hst, hlen, hj, h1, h2, h3, h4⟩
    | _ => exact absurd hdo (by simp)
theorem am_ci_inv {C : am_C} {cal n : Nat} {st : List Value} {z : Nat × List Value × List Value} (hdo : am_ci C cal n st = some z) : ∃ (a : Nat) (r : List Value) (N : am_M), st = (st.take n) ++ .ref a :: r ∧ (st.take n).length = n ∧ C.1[cal]? = some N ∧ (lg_sl (.ref a :: (st.take n).reverse)).length ≤ N.2.2.1 ∧ am_ca r ≤ 8 ∧ z = (cal, .ref a :: (st.take n).reverse, r) := by
  unfold am_ci at hdo
  cases hd : st.drop n with
  | nil => rw [hd] at hdo; exact absurd hdo (by simp)
  | cons v r =>
    rw [hd] at hdo
    have hlen : (st.take n).length = n := by
      have h1 : 0 < (st.drop n).length := by rw [hd]; exact Nat.zero_lt_succ _
      rw [List.length_drop] at h1
      rw [List.length_take]
      omega
    have hst : st = st.take n ++ (v :: r) := by rw [← hd]; exact (List.take_append_drop n st).symm
    cases v with
    | ref a =>
      obtain ⟨N, h1, h2, h3, h4⟩ := am_cal_inv hdo
      exact ⟨a, r, N, hst, hlen, h1, h2, h3, h4⟩
    | _ => exact absurd hdo (by simp)
theorem am_cs_inv {C : am_C} {cal n : Nat} {st : List Value} {z : Nat × List Value × List Value} (hdo : am_cs C cal n st = some z) : ∃ N : am_M, (st.take n).length = n ∧ C.1[cal]? = some N ∧ (lg_sl (st.take n).reverse).length ≤ N.2.2.1 ∧ am_ca (st.drop n) ≤ 8 ∧ z = (cal, (st.take n).reverse, st.drop n) := by
  unfold am_cs at hdo
  cases hc : decide (n ≤ st.length) with
  | false => rw [hc] at hdo; exact absurd hdo (by simp)
  | true =>
    rw [hc, cond_true] at hdo
    obtain ⟨N, h1, h2, h3, h4⟩ := am_cal_inv hdo
    exact ⟨N, by rw [List.length_take]; have := of_decide_eq_true hc; omega, h1, h2, h3, h4⟩
theorem am_na_inv {ty : ArrayType} {pc : Nat} {st : List Value} {z : Nat × List Value × am_E × Nat} (hdo : am_na ty pc st = some z) : ∃ (n : Int32) (r : List Value) (tg : Bool), st = .int n :: r ∧ ¬ n < 0 ∧ n.toNatClampNeg ≤ 100000 ∧ ((ty = .int ∧ tg = false) ∨ (ty = .char ∧ tg = true)) ∧ z = (pc + 2, r, .inl (tg, List.replicate n.toNatClampNeg 0), n.toNatClampNeg) := by
  rcases st with _ | ⟨v0, r⟩
  · exact absurd hdo (by simp [am_na])
  · cases v0 with
    | int n =>
      simp only [am_na] at hdo
      cases hc : (!decide (n < 0) && decide (n.toNatClampNeg ≤ 100000)) with
      | false => rw [hc] at hdo; exact absurd hdo (by simp)
      | true =>
        rw [hc, cond_true] at hdo
        rw [Bool.and_eq_true, decide_eq_true_eq, Bool.not_eq_true', decide_eq_false_iff_not] at hc
        cases ty with
        | int => exact ⟨n, r, false, rfl, hc.1, hc.2, Or.inl ⟨rfl, rfl⟩, (Option.some.inj hdo).symm⟩
        | char => exact ⟨n, r, true, rfl, hc.1, hc.2, Or.inr ⟨rfl, rfl⟩, (Option.some.inj hdo).symm⟩
        | _ => exact absurd hdo (by simp)
    | _ => exact absurd hdo (by simp [am_na])
end
section
section AMS
variable {C : am_C} {G : List Cond} {D : va_G} {cI cC : ClassId} {base b t : Nat} {p : Program} {l : Launch} {e : Env} {R : Room} {s : State} {m : MethodId} {args : Array Value} {below : List Frame} {meth : Method} {c : Code} {M : am_M} {H : Heap} {locs : List Loc} {cells slots : Nat} {Q : State → Prop} {pc : Nat} {ls : Array Slot} {lv : am_V} {st : List Value} {h : List am_E} {z : am_Z}
theorem am_pget {k0 : Nat} {x : am_X} (O : am_OK C G) (F : am_F C G D cI cC base b t p s m args meth c M) (I : am_N C D cI cC base b t s cells h H locs) (hl : lv_has ls M.2.2.1 (am_lm base b t lv)) (hdec : decode M.2.1 pc = .ok (.getfield k0, 3)) (hfl : am_fl C G M k0 x) (hdo : am_get x.1 x.2.1 pc lv st h = some z)
    (k : ∀ (ls1 : Array Slot) (H1 : Heap) (locs1 : List Loc), am_N C D cI cC base b t s cells z.2.2.2 H1 locs1 → lv_has ls1 M.2.2.1 (am_lm base b t z.2.1) → W p l e R s m args below meth c H1 locs1 cells slots Q (F0 m z.1 ls1 (z.2.2.1.map (am_tr base b t)))) : W p l e R s m args below meth c H locs cells slots Q (F0 m pc ls (st.map (am_tr base b t))) := by
  obtain ⟨hx, hb, hml, hown, hts, hr, hlk, hnm, hK, hO, hbs⟩ := F
  obtain ⟨q, hq, hk, hlink⟩ := hfl
  have hco := O.2.1 _ _ hq
  obtain ⟨j, r, fs, v, rfl, hj, hv, rfl⟩ := am_get_inv hdo
  refine va_get (D := D) (cl := C.2.1) (C := q.1) (T := q.2.1) (N := q.2.2) (ci := x.1) (a := base + j) (v := am_tr base b t v) (fs := fs.map (am_tr base b t)) hx hb hts hco.1 hown hK I.1 j (am_w_at hj) hq x.2.1 hk (hts _ hlink) (fun y hy => by rw [← hco.2.2.2.2.2 _ hk]; exact hy) (by rw [List.getElem?_map, hv]; rfl) hdec (k ls H locs I hl)
theorem am_pput {k0 : Nat} {x : am_X} (O : am_OK C G) (F : am_F C G D cI cC base b t p s m args meth c M) (I : am_N C D cI cC base b t s cells h H locs) (hl : lv_has ls M.2.2.1 (am_lm base b t lv)) (hdec : decode M.2.1 pc = .ok (.putfield k0, 3)) (hfl : am_fl C G M k0 x) (hfi : ∃ q : vw_C, C.2.1[x.1]? = some q ∧ ((q.2.1 x.2.1).2.2.2 = false ∨ (q.2.1 x.2.1).2.2.2 = true ∧ M.1.name = "<init>" ∧ q.1 = M.1.cls)) (hdo : am_put (C.2.2.1 x.1 x.2.1) x.1 x.2.1 pc lv st h = some z)
    (k : ∀ (ls1 : Array Slot) (H1 : Heap) (locs1 : List Loc), am_N C D cI cC base b t s cells z.2.2.2 H1 locs1 → lv_has ls1 M.2.2.1 (am_lm base b t z.2.1) → W p l e R s m args below meth c H1 locs1 cells slots Q (F0 m z.1 ls1 (z.2.2.1.map (am_tr base b t)))) : W p l e R s m args below meth c H locs cells slots Q (F0 m pc ls (st.map (am_tr base b t))) := by
  obtain ⟨hx, hb, hml, hown, hts, hr, hlk, hnm, hK, hO, hbs⟩ := F
  obtain ⟨q, hq, hk, hlink⟩ := hfl
  obtain ⟨q', hq', hfin⟩ := hfi
  cases hq.symm.trans hq'
  have hco := O.2.1 _ _ hq
  obtain ⟨j, r, fs, v, rfl, hj, hkl, hty, rfl⟩ := am_put_inv hdo
  have hfit := am_fi_ok base b t hty
  have hgo : ∀ (H1 : Heap) (locs1 : List Loc), va_P D C.2.1 ((am_w base b t cI cC h).set j (base + j, .inr (x.1, (fs.map (am_tr base b t)).set x.2.1 (am_tr base b t v)))) H1 → va_D (am_A base) ((am_w base b t cI cC h).set j (base + j, .inr (x.1, (fs.map (am_tr base b t)).set x.2.1 (am_tr base b t v)))) → va_S (am_A base) s.heap H1 locs1 → W p l e R s m args below meth c H1 locs1 cells slots Q (F0 m (pc + 3) ls (r.map (am_tr base b t))) := by
    intro H1 locs1 hP1 _ hS1
    refine k ls H1 locs1 ⟨?_, ?_, hS1⟩ hl
    · rw [am_w_set]
      have e : am_e base b t cI cC (.inr (x.1, fs.set x.2.1 v)) = .inr (x.1, (fs.map (am_tr base b t)).set x.2.1 (am_tr base b t v)) := by
        show (Sum.inr (x.1, (fs.set x.2.1 v).map (am_tr base b t)) : va_E) = _
        rw [List.map_set]
      rw [e]
      exact hP1
    · rw [List.length_set]
      exact I.2.1
  rcases hfin with hf | ⟨hf, hin, hcl⟩
  · exact va_put (D := D) (cl := C.2.1) (C := q.1) (T := q.2.1) (N := q.2.2) (ci := x.1) (a := base + j) (v := am_tr base b t v) (fs := fs.map (am_tr base b t)) hx hb hts hco.1 (C.2.2.1 x.1) hco.2.1 hco.2.2.1 hown hK I.1 (am_w_D base b t cI cC h) I.2.2 j (am_w_at hj) hq x.2.1 hk (hts _ hlink) (fun y hy => by rw [← hco.2.2.2.2.2 _ hk]; exact hy) hf (hco.2.1 _ hk) hfit.1 hfit.2 (by rw [List.length_map]; exact hkl) hdec hgo
  · exact va_putF (D := D) (cl := C.2.1) (C := q.1) (T := q.2.1) (N := q.2.2) (ci := x.1) (a := base + j) (v := am_tr base b t v) (fs := fs.map (am_tr base b t)) hx hb hts hco.1 (C.2.2.1 x.1) hco.2.1 hco.2.2.1 hown hK I.1 (am_w_D base b t cI cC h) I.2.2 j (am_w_at hj) hq x.2.1 hk (hts _ hlink) (fun y hy => by rw [← hco.2.2.2.2.2 _ hk]; exact hy) hf (hnm hin) ((hco.2.2.2.2.2 _ hk).trans hcl) (hco.2.1 _ hk) hfit.1 hfit.2 (by rw [List.length_map]; exact hkl) hdec hgo
theorem am_in_of {i : Int32} {n : Nat} (h0 : ¬ i < 0) (h : i.toNatClampNeg < n) : vp_in i n := fun q => by
  rcases q with q | q
  · exact h0 q
  · exact Nat.not_le.mpr h q
theorem am_lt_of {α : Type} {a : List α} {i : Nat} {v : α} (h : a[i]? = some v) : i < a.length := (List.getElem?_eq_some_iff.mp h).1
theorem am_getD_of {a : List Int32} {i : Nat} {v : Int32} (h : a[i]? = some v) : a.getD i 0 = v := by rw [List.getD_eq_getElem?_getD, h]; rfl
theorem am_pildi (O : am_OK C G) (F : am_F C G D cI cC base b t p s m args meth c M) (I : am_N C D cI cC base b t s cells h H locs) (hl : lv_has ls M.2.2.1 (am_lm base b t lv)) (hdec : decode M.2.1 pc = .ok (.iaload, 1)) (hdo : am_ld false C.2.2.2.1 pc lv st h = some z)
    (k : ∀ (ls1 : Array Slot) (H1 : Heap) (locs1 : List Loc), am_N C D cI cC base b t s cells z.2.2.2 H1 locs1 → lv_has ls1 M.2.2.1 (am_lm base b t z.2.1) → W p l e R s m args below meth c H1 locs1 cells slots Q (F0 m z.1 ls1 (z.2.2.1.map (am_tr base b t)))) : W p l e R s m args below meth c H locs cells slots Q (F0 m pc ls (st.map (am_tr base b t))) := by
  obtain ⟨hx, hb, hml, hown, hts, hr, hlk, hnm, hK, hO, hbs⟩ := F
  obtain ⟨i, r, v, h0, rfl, hc⟩ := am_ld_inv hdo
  rcases hc with ⟨rfl, -, hv⟩ | ⟨j, a, rfl, hj, hv⟩
  · have K := k ls H locs I hl
    rw [← am_getD_of hv] at K
    exact va_sld hx hb hO.1 (Nat.lt_of_lt_of_le hO.2.1 hbs) (Nat.not_le.mpr hO.2.1) I.2.2 (am_in_of h0 (am_lt_of hv)) hdec K
  · have K := k ls H locs I hl
    rw [← am_getD_of hv] at K
    exact va_iald (D := D) (cl := C.2.1) (a := base + j) (f := fun j => a.getD j 0) (cA := cI) (n := a.length) hx hb hK I.1 j 0 (am_w_at hj) rfl (am_in_of h0 (am_lt_of hv)) hdec K
theorem am_pildc (O : am_OK C G) (F : am_F C G D cI cC base b t p s m args meth c M) (I : am_N C D cI cC base b t s cells h H locs) (hl : lv_has ls M.2.2.1 (am_lm base b t lv)) (hdec : decode M.2.1 pc = .ok (.caload, 1)) (hdo : am_ld true C.2.2.2.1 pc lv st h = some z)
    (k : ∀ (ls1 : Array Slot) (H1 : Heap) (locs1 : List Loc), am_N C D cI cC base b t s cells z.2.2.2 H1 locs1 → lv_has ls1 M.2.2.1 (am_lm base b t z.2.1) → W p l e R s m args below meth c H1 locs1 cells slots Q (F0 m z.1 ls1 (z.2.2.1.map (am_tr base b t)))) : W p l e R s m args below meth c H locs cells slots Q (F0 m pc ls (st.map (am_tr base b t))) := by
  obtain ⟨hx, hb, hml, hown, hts, hr, hlk, hnm, hK, hO, hbs⟩ := F
  obtain ⟨i, r, v, h0, rfl, hc⟩ := am_ld_inv hdo
  rcases hc with ⟨-, hff, -⟩ | ⟨j, a, rfl, hj, hv⟩
  · cases hff
  · have K := k ls H locs I hl
    rw [← am_getD_of hv] at K
    exact va_cald (D := D) (cl := C.2.1) (a := base + j) (f := fun j => a.getD j 0) (cA := cC) (n := a.length) hx hb hK I.1 j 1 (am_w_at hj) rfl (am_in_of h0 (am_lt_of hv)) hdec K
theorem am_plld (O : am_OK C G) (F : am_F C G D cI cC base b t p s m args meth c M) (I : am_N C D cI cC base b t s cells h H locs) (hl : lv_has ls M.2.2.1 (am_lm base b t lv)) (hdec : decode M.2.1 pc = .ok (.laload, 1)) (hdo : am_lld C.2.2.2.2 pc lv st h = some z)
    (k : ∀ (ls1 : Array Slot) (H1 : Heap) (locs1 : List Loc), am_N C D cI cC base b t s cells z.2.2.2 H1 locs1 → lv_has ls1 M.2.2.1 (am_lm base b t z.2.1) → W p l e R s m args below meth c H1 locs1 cells slots Q (F0 m z.1 ls1 (z.2.2.1.map (am_tr base b t)))) : W p l e R s m args below meth c H locs cells slots Q (F0 m pc ls (st.map (am_tr base b t))) := by
  obtain ⟨hx, hb, hml, hown, hts, hr, hlk, hnm, hK, hO, hbs⟩ := F
  obtain ⟨i, r, v, h0, rfl, rfl, hv⟩ := am_lld_inv hdo
  exact va_tl (v := .long v) hx hb hO.2.2.1 I.2.2 (am_in_of h0 (am_lt_of hv)) (by show Value.long (C.2.2.2.2.getD _ 0) = _; rw [List.getD_eq_getElem?_getD, hv]; rfl) hdec (k ls H locs I hl)
theorem am_set_upd (a : List Int32) (i : Nat) (v : Int32) (hi : i < a.length) : (fun j => (a.set i v).getD j 0) = upd (fun j => a.getD j 0) i v := by
  funext j
  unfold upd
  rw [List.getD_eq_getElem?_getD, List.getElem?_set]
  by_cases hj : j = i
  · subst hj
    rw [if_pos rfl, if_pos hi, if_pos rfl]
    rfl
  · rw [if_neg (fun q => hj q.symm), if_neg hj]
    exact List.getD_eq_getElem?_getD.symm
theorem am_psti (O : am_OK C G) (F : am_F C G D cI cC base b t p s m args meth c M) (I : am_N C D cI cC base b t s cells h H locs) (hl : lv_has ls M.2.2.1 (am_lm base b t lv)) (hdec : decode M.2.1 pc = .ok (.iastore, 1)) (hdo : am_sto false pc lv st h = some z)
    (k : ∀ (ls1 : Array Slot) (H1 : Heap) (locs1 : List Loc), am_N C D cI cC base b t s cells z.2.2.2 H1 locs1 → lv_has ls1 M.2.2.1 (am_lm base b t z.2.1) → W p l e R s m args below meth c H1 locs1 cells slots Q (F0 m z.1 ls1 (z.2.2.1.map (am_tr base b t)))) : W p l e R s m args below meth c H locs cells slots Q (F0 m pc ls (st.map (am_tr base b t))) := by
  obtain ⟨hx, hb, hml, hown, hts, hr, hlk, hnm, hK, hO, hbs⟩ := F
  obtain ⟨i, v, r, j, a, h0, rfl, hj, hi, rfl⟩ := am_sto_inv hdo
  refine va_iast (D := D) (cl := C.2.1) (a := base + j) (f := fun j => a.getD j 0) (cA := cI) (n := a.length) hx hb hK I.1 (am_w_D base b t cI cC h) I.2.2 j 0 (am_w_at hj) rfl (am_in_of h0 hi) hdec (fun H1 locs1 hP1 _ hS1 => k ls H1 locs1 ⟨?_, ?_, hS1⟩ hl)
  · rw [am_w_set]
    have e : am_e base b t cI cC (.inl (false, a.set i.toNatClampNeg v)) = .inl (cI, a.length, .inl (upd (fun j => a.getD j 0) i.toNatClampNeg v)) := by
      show (Sum.inl (cI, (a.set i.toNatClampNeg v).length, Sum.inl (fun j => (a.set i.toNatClampNeg v).getD j 0)) : va_E) = _
      rw [am_set_upd a _ v hi, List.length_set]
    have e2 : (bif false then vp_nar .char v else v) = v := rfl
    rw [e2, e]
    exact hP1
  · rw [List.length_set]
    exact I.2.1
theorem am_pstc (O : am_OK C G) (F : am_F C G D cI cC base b t p s m args meth c M) (I : am_N C D cI cC base b t s cells h H locs) (hl : lv_has ls M.2.2.1 (am_lm base b t lv)) (hdec : decode M.2.1 pc = .ok (.castore, 1)) (hdo : am_sto true pc lv st h = some z)
    (k : ∀ (ls1 : Array Slot) (H1 : Heap) (locs1 : List Loc), am_N C D cI cC base b t s cells z.2.2.2 H1 locs1 → lv_has ls1 M.2.2.1 (am_lm base b t z.2.1) → W p l e R s m args below meth c H1 locs1 cells slots Q (F0 m z.1 ls1 (z.2.2.1.map (am_tr base b t)))) : W p l e R s m args below meth c H locs cells slots Q (F0 m pc ls (st.map (am_tr base b t))) := by
  obtain ⟨hx, hb, hml, hown, hts, hr, hlk, hnm, hK, hO, hbs⟩ := F
  obtain ⟨i, v, r, j, a, h0, rfl, hj, hi, rfl⟩ := am_sto_inv hdo
  refine va_cast (D := D) (cl := C.2.1) (a := base + j) (f := fun j => a.getD j 0) (cA := cC) (n := a.length) hx hb hK I.1 (am_w_D base b t cI cC h) I.2.2 j 1 (am_w_at hj) rfl (am_in_of h0 hi) hdec (fun H1 locs1 hP1 _ hS1 => k ls H1 locs1 ⟨?_, ?_, hS1⟩ hl)
  · rw [am_w_set]
    have e : am_e base b t cI cC (.inl (true, a.set i.toNatClampNeg (vp_nar .char v))) = .inl (cC, a.length, .inl (upd (fun j => a.getD j 0) i.toNatClampNeg (vp_nar .char v))) := by
      show (Sum.inl (cC, (a.set i.toNatClampNeg (vp_nar .char v)).length, Sum.inl (fun j => (a.set i.toNatClampNeg (vp_nar .char v)).getD j 0)) : va_E) = _
      rw [am_set_upd a _ _ hi, List.length_set]
    have e2 : (bif true then vp_nar .char v else v) = vp_nar .char v := rfl
    rw [e2, e]
    exact hP1
  · rw [List.length_set]
    exact I.2.1
theorem am_plen (O : am_OK C G) (F : am_F C G D cI cC base b t p s m args meth c M) (I : am_N C D cI cC base b t s cells h H locs) (hl : lv_has ls M.2.2.1 (am_lm base b t lv)) (hdec : decode M.2.1 pc = .ok (.arraylength, 1)) (hdo : am_len C.2.2.2.1 C.2.2.2.2 pc lv st h = some z)
    (k : ∀ (ls1 : Array Slot) (H1 : Heap) (locs1 : List Loc), am_N C D cI cC base b t s cells z.2.2.2 H1 locs1 → lv_has ls1 M.2.2.1 (am_lm base b t z.2.1) → W p l e R s m args below meth c H1 locs1 cells slots Q (F0 m z.1 ls1 (z.2.2.1.map (am_tr base b t)))) : W p l e R s m args below meth c H locs cells slots Q (F0 m pc ls (st.map (am_tr base b t))) := by
  obtain ⟨hx, hb, hml, hown, hts, hr, hlk, hnm, hK, hO, hbs⟩ := F
  obtain ⟨r, v, rfl, hc⟩ := am_len_inv hdo
  rcases hc with ⟨rfl, rfl⟩ | ⟨rfl, rfl⟩ | ⟨j, o, rfl, hj, rfl⟩
  · exact va_slen hx hb hO.1 (Nat.lt_of_lt_of_le hO.2.1 hbs) (Nat.not_le.mpr hO.2.1) I.2.2 hdec (k ls H locs I hl)
  · exact va_tlen hx hb hO.2.2.1 I.2.2 rfl hdec (k ls H locs I hl)
  · obtain ⟨tg, a⟩ := o
    cases tg with
    | false => exact va_alen (D := D) (cl := C.2.1) (a := base + j) (cA := cI) (ty := .int) hx hb hK I.1 j 0 (am_w_at hj) rfl rfl hdec (k ls H locs I hl)
    | true => exact va_alen (D := D) (cl := C.2.1) (a := base + j) (cA := cC) (ty := .char) hx hb hK I.1 j 1 (am_w_at hj) rfl rfl hdec (k ls H locs I hl)
theorem am_cp_fun (f g : List Int32) (sp dp n : Nat) (h1 : sp + n ≤ f.length) (h2 : dp + n ≤ g.length) : (am_cp f g sp dp n).length = g.length ∧ (fun j => (am_cp f g sp dp n).getD j 0) = va_cpy (fun j => f.getD j 0) (fun j => g.getD j 0) sp dp n := by
  have l1 : (g.take dp).length = dp := by rw [List.length_take]; omega
  have l2 : ((f.drop sp).take n).length = n := by rw [List.length_take, List.length_drop]; omega
  refine ⟨?_, ?_⟩
  · unfold am_cp
    rw [List.length_append, List.length_append, l1, l2, List.length_drop]
    omega
  · funext j
    unfold am_cp va_cpy
    rw [List.getD_eq_getElem?_getD]
    by_cases hj : j < dp
    · rw [List.getElem?_append_left (by rw [l1]; exact hj), List.getElem?_take_of_lt hj, if_neg (by omega)]
      exact List.getD_eq_getElem?_getD.symm
    · rw [List.getElem?_append_right (by rw [l1]; omega), l1]
      by_cases hk : j < dp + n
      · rw [List.getElem?_append_left (by rw [l2]; omega), List.getElem?_take_of_lt (by omega), List.getElem?_drop, if_pos (by omega)]
        exact List.getD_eq_getElem?_getD.symm
      · rw [List.getElem?_append_right (by rw [l2]; omega), l2, List.getElem?_drop, if_neg (by omega)]
        have e : dp + n + (j - dp - n) = j := by omega
        rw [e]
        exact List.getD_eq_getElem?_getD.symm
theorem am_pmax {k0 d : Nat} (O : am_OK C G) (F : am_F C G D cI cC base b t p s m args meth c M) (I : am_N C D cI cC base b t s cells h H locs) (hl : lv_has ls M.2.2.1 (am_lm base b t lv)) (hd : d ≤ R.frames ∧ 64 * d ≤ R.locals) (hcs : cells ≤ R.cells ∧ slots ≤ R.slots) (hdec : decode M.2.1 pc = .ok (.invokestatic k0, 3)) (hlink : Cond.methodLink M.1.cls k0 Lib.Math.max.name ∈ G) (hdo : am_max d pc lv st h = some z)
    (k : ∀ (ls1 : Array Slot) (H1 : Heap) (locs1 : List Loc), am_N C D cI cC base b t s cells z.2.2.2 H1 locs1 → lv_has ls1 M.2.2.1 (am_lm base b t z.2.1) → W p l e R s m args below meth c H1 locs1 cells slots Q (F0 m z.1 ls1 (z.2.2.1.map (am_tr base b t)))) : W p l e R s m args below meth c H locs cells slots Q (F0 m pc ls (st.map (am_tr base b t))) := by
  obtain ⟨hx, hb, hml, hown, hts, hr, hlk, hnm, hK, hO, hbs⟩ := F
  obtain ⟨x, y, r, rfl, h1, h8, rfl⟩ := am_max_inv hdo
  obtain ⟨hg, -, -, g1, g2, g3, -⟩ := O.1
  exact va_mmax hx hb (hml.trans hl.1.symm) hown (hts _ hlink) (hts _ g1) (hts _ g2) (hts _ g3) (by omega) (by rw [am_ca_tr]; omega) hcs.1 hcs.2 hdec (k ls H locs I hl)
theorem am_poi {k0 d : Nat} (O : am_OK C G) (F : am_F C G D cI cC base b t p s m args meth c M) (I : am_N C D cI cC base b t s cells h H locs) (hl : lv_has ls M.2.2.1 (am_lm base b t lv)) (hd : d ≤ R.frames ∧ 64 * d ≤ R.locals) (hdec : decode M.2.1 pc = .ok (.invokespecial k0, 3)) (hlink : Cond.methodLink M.1.cls k0 objectInit ∈ G) (hdo : am_oi d pc lv st h = some z)
    (k : ∀ (ls1 : Array Slot) (H1 : Heap) (locs1 : List Loc), am_N C D cI cC base b t s cells z.2.2.2 H1 locs1 → lv_has ls1 M.2.2.1 (am_lm base b t z.2.1) → W p l e R s m args below meth c H1 locs1 cells slots Q (F0 m z.1 ls1 (z.2.2.1.map (am_tr base b t)))) : W p l e R s m args below meth c H locs cells slots Q (F0 m pc ls (st.map (am_tr base b t))) := by
  obtain ⟨hx, hb, hml, hown, hts, hr, hlk, hnm, hK, hO, hbs⟩ := F
  obtain ⟨a, r, rfl, h1, h8, rfl⟩ := am_oi_inv hdo
  obtain ⟨hg, g1, g2, -⟩ := O.1
  have K := k ls H locs I hl
  match a, K with
  | 0, K => exact W.objInit (a := b) (rest := r.map (am_tr base b t)) hx hb hown (hts _ hlink) (hts _ g1) (hts _ g2) rfl (hl.1.trans hml.symm) rfl hdec (by omega) (by show 2 * 0 + _ + 12 ≤ _; rw [am_ca_tr]; omega) K
  | 1, K => exact W.objInit (a := t) (rest := r.map (am_tr base b t)) hx hb hown (hts _ hlink) (hts _ g1) (hts _ g2) rfl (hl.1.trans hml.symm) rfl hdec (by omega) (by show 2 * 0 + _ + 12 ≤ _; rw [am_ca_tr]; omega) K
  | j + 2, K => exact W.objInit (a := base + j) (rest := r.map (am_tr base b t)) hx hb hown (hts _ hlink) (hts _ g1) (hts _ g2) rfl (hl.1.trans hml.symm) rfl hdec (by omega) (by show 2 * 0 + _ + 12 ≤ _; rw [am_ca_tr]; omega) K
theorem am_pacp {k0 d : Nat} (O : am_OK C G) (F : am_F C G D cI cC base b t p s m args meth c M) (I : am_N C D cI cC base b t s cells h H locs) (hl : lv_has ls M.2.2.1 (am_lm base b t lv)) (hd : d ≤ R.frames ∧ 64 * d ≤ R.locals) (hdec : decode M.2.1 pc = .ok (.invokestatic k0, 3)) (hlink : Cond.methodLink M.1.cls k0 arraycopyName ∈ G) (hdo : am_acp d pc lv st h = some z)
    (k : ∀ (ls1 : Array Slot) (H1 : Heap) (locs1 : List Loc), am_N C D cI cC base b t s cells z.2.2.2 H1 locs1 → lv_has ls1 M.2.2.1 (am_lm base b t z.2.1) → W p l e R s m args below meth c H1 locs1 cells slots Q (F0 m z.1 ls1 (z.2.2.1.map (am_tr base b t)))) : W p l e R s m args below meth c H locs cells slots Q (F0 m pc ls (st.map (am_tr base b t))) := by
  obtain ⟨hx, hb, hml, hown, hts, hr, hlk, hnm, hK, hO, hbs⟩ := F
  obtain ⟨n, dp, sp, j, j2, o, q, r, rfl, hj, hj2, hc, rfl⟩ := am_acp_inv hdo
  obtain ⟨hg, -, -, -, -, -, g1, g2, g3, -⟩ := O.1
  obtain ⟨to, lo⟩ := o
  obtain ⟨tq, lq⟩ := q
  unfold am_acc at hc
  simp only [Bool.and_eq_true, decide_eq_true_eq, Bool.not_eq_true', decide_eq_false_iff_not] at hc
  obtain ⟨⟨e1, e2⟩, ⟨d1, d8⟩, ⟨s1, s2, s3⟩, ⟨b1, b2⟩, hall⟩ := hc
  subst e1
  subst e2
  have hcp := am_cp_fun lq lo sp.toNatClampNeg dp.toNatClampNeg n.toNatClampNeg b1 b2
  refine va_copyi (D := D) (cl := C.2.1) (a := base + j) (a0 := base + j2) (c0 := cC) (c1 := cC) (n0 := lq.length) (n1 := lo.length) (f := fun j => lq.getD j 0) (g := fun j => lo.getD j 0) (ty := .char) hx hb (hml.trans hl.1.symm) hown (hts _ hlink) (hts _ g1) (hts _ g2) (hts _ g3) hK I.1 (am_w_D base b t cI cC h) I.2.2 j2 j 1 1 (am_w_at hj2) (am_w_at hj) rfl rfl rfl s1 s2 s3 b1 b2 ?_ (by omega) ?_ hdec (fun H1 locs1 hP1 _ hS1 => k ls H1 locs1 ⟨?_, ?_, hS1⟩ hl)
  · intro i hi
    rw [List.all_eq_true] at hall
    refine hall _ ?_
    rw [List.getD_eq_getElem?_getD]
    have hlt : sp.toNatClampNeg + i < lq.length := by omega
    rw [List.getElem?_eq_getElem hlt]
    refine List.mem_of_getElem? (i := i) ?_
    rw [List.getElem?_take_of_lt hi, List.getElem?_drop, List.getElem?_eq_getElem hlt]
    rfl
  · rw [am_ca_tr]
    have : nativeFrameWords "java/lang/System" "arraycopy" 5 = 7 := by decide +kernel
    omega
  · rw [am_w_set]
    have e : am_e base b t cI cC (.inl (true, am_cp lq lo sp.toNatClampNeg dp.toNatClampNeg n.toNatClampNeg)) = .inl (cC, lo.length, .inl (va_cpy (fun j => lq.getD j 0) (fun j => lo.getD j 0) sp.toNatClampNeg dp.toNatClampNeg n.toNatClampNeg)) := by
      show (Sum.inl (cC, (am_cp lq lo sp.toNatClampNeg dp.toNatClampNeg n.toNatClampNeg).length, Sum.inl (fun j => (am_cp lq lo sp.toNatClampNeg dp.toNatClampNeg n.toNatClampNeg).getD j 0)) : va_E) = _
      rw [hcp.1, hcp.2]
    rw [e]
    exact hP1
  · rw [List.length_set]
    exact I.2.1
end AMS
end
section
section AMT
variable {C : am_C} {G : List Cond} {D : va_G} {cI cC : ClassId} {base b t : Nat} {p : Program} {l : Launch} {e : Env} {R : Room} {s : State} {m : MethodId} {args : Array Value} {below : List Frame} {meth : Method} {c : Code} {M : am_M} {H : Heap} {locs : List Loc} {cells slots : Nat} {Q : State → Prop} {pc : Nat} {ls : Array Slot} {lv : am_V} {st : List Value} {h : List am_E} {z : am_Z}
set_option maxHeartbeats 4000000 in
/-- a step of the abstract machine is a step of the machine -/
theorem am_pl {i : Instr} {len d : Nat} {x : am_X} (O : am_OK C G) (F : am_F C G D cI cC base b t p s m args meth c M) (I : am_N C D cI cC base b t s cells h H locs) (hl : lv_has ls M.2.2.1 (am_lm base b t lv)) (hd : d ≤ R.frames ∧ 64 * d ≤ R.locals) (hcs : cells ≤ R.cells ∧ slots ≤ R.slots) (hok : am_ok C G M (pc, i, len, x)) (hkd : am_kd i x = 0) (hdo : am_do C d i x pc lv st h = some z)
    (k : ∀ (ls1 : Array Slot) (H1 : Heap) (locs1 : List Loc), am_N C D cI cC base b t s cells z.2.2.2 H1 locs1 → lv_has ls1 M.2.2.1 (am_lm base b t z.2.1) → W p l e R s m args below meth c H1 locs1 cells slots Q (F0 m z.1 ls1 (z.2.2.1.map (am_tr base b t)))) : W p l e R s m args below meth c H locs cells slots Q (F0 m pc ls (st.map (am_tr base b t))) := by
  have FX := F
  obtain ⟨hx, hb, hml, hown, hts, hr, hlk, hnm, hK, hO, hbs⟩ := FX
  obtain ⟨x1, x2, x3, x4⟩ := x
  have hdec : decode M.2.1 pc = .ok (i, len) := hok.1
  have hlo : am_lo C G M pc i len (x1, x2, x3, x4) := hok.2
  clear hok
  cases i
  case iconst n =>
    have hlo : len = 1 ∧ x4 = _ := hlo
    obtain ⟨rfl, rfl⟩ := hlo
    obtain rfl := Option.some.inj hdo
    exact lv_iconst hx hb hdec rfl (k ls H locs I hl)
  case bipush n =>
    have hlo : len = 2 ∧ x4 = _ := hlo
    obtain ⟨rfl, rfl⟩ := hlo
    obtain rfl := Option.some.inj hdo
    exact lv_bipush hx hb hdec rfl (k ls H locs I hl)
  case sipush n =>
    have hlo : len = 3 ∧ x4 = _ := hlo
    obtain ⟨rfl, rfl⟩ := hlo
    obtain rfl := Option.some.inj hdo
    exact lv_sipush hx hb hdec rfl (k ls H locs I hl)
  case lconst n =>
    have hlo : len = 1 ∧ x4 = _ := hlo
    obtain ⟨rfl, rfl⟩ := hlo
    obtain rfl := Option.some.inj hdo
    exact lv_lconst hx hb hdec rfl (k ls H locs I hl)
  case ldc2_w n =>
    obtain ⟨hlen, v, hv, hmem⟩ := hlo
    have hlen : len = 3 := hlen
    have hv : x4 = .long v := hv
    subst hlen
    subst hv
    obtain rfl := Option.some.inj hdo
    exact lv_ldc2 hx hb hown (hts _ hmem) hdec (k ls H locs I hl)
  case iload_n n =>
    have hlen : len = 1 := hlo
    subst hlen
    obtain ⟨v, hv, rfl⟩ := am_li1_inv hdo
    exact lv_iload_n hx hb hdec rfl (am_lk_at hl hv) (k ls H locs I hl)
  case iload n =>
    have hlen : len = 2 := hlo
    subst hlen
    obtain ⟨v, hv, rfl⟩ := am_li1_inv hdo
    exact lv_iload hx hb hdec (am_lk_at hl hv) (k ls H locs I hl)
  case lload_n n =>
    have hlen : len = 1 := hlo
    subst hlen
    obtain ⟨v, hv, rfl⟩ := am_ll1_inv hdo
    exact lv_lload_n hx hb hdec rfl (am_lk_at hl hv) (k ls H locs I hl)
  case lload n =>
    have hlen : len = 2 := hlo
    subst hlen
    obtain ⟨v, hv, rfl⟩ := am_ll1_inv hdo
    exact lv_lload hx hb hdec (am_lk_at hl hv) (k ls H locs I hl)
  case aload_n n =>
    have hlen : len = 1 := hlo
    subst hlen
    obtain ⟨v, hv, rfl⟩ := am_la1_inv hdo
    have hv := am_lk_at hl hv
    have K := k ls H locs I hl
    match v, hv, K with
    | 0, hv, K => exact lv_aload_n hx hb hdec rfl hv K
    | 1, hv, K => exact lv_aload_n hx hb hdec rfl hv K
    | j + 2, hv, K => exact lv_aload_n hx hb hdec rfl hv K
  case aload n =>
    have hlen : len = 2 := hlo
    subst hlen
    obtain ⟨v, hv, rfl⟩ := am_la1_inv hdo
    have hv := am_lk_at hl hv
    have K := k ls H locs I hl
    match v, hv, K with
    | 0, hv, K => exact lv_aload hx hb hdec hv K
    | 1, hv, K => exact lv_aload hx hb hdec hv K
    | j + 2, hv, K => exact lv_aload hx hb hdec hv K
  case istore_n n =>
    obtain ⟨hlen, hn⟩ := hlo
    have hlen : len = 1 := hlen
    subst hlen
    obtain ⟨v, r, rfl, rfl⟩ := am_si1_inv hdo
    exact lv_istore_n hx hb hdec rfl hl hn rfl (fun ls1 hl1 => k ls1 H locs I (am_s1_has (v := .int v) hl1))
  case istore n =>
    obtain ⟨hlen, hn⟩ := hlo
    have hlen : len = 2 := hlen
    subst hlen
    obtain ⟨v, r, rfl, rfl⟩ := am_si1_inv hdo
    exact lv_istore hx hb hdec hl hn rfl (fun ls1 hl1 => k ls1 H locs I (am_s1_has (v := .int v) hl1))
  case lstore_n n =>
    obtain ⟨hlen, hn⟩ := hlo
    have hlen : len = 1 := hlen
    subst hlen
    obtain ⟨v, r, rfl, rfl⟩ := am_sl1_inv hdo
    exact lv_lstore_n hx hb hdec rfl hl hn rfl (fun ls1 hl1 => k ls1 H locs I (am_s2_has (v := .long v) hl1))
  case lstore n =>
    obtain ⟨hlen, hn⟩ := hlo
    have hlen : len = 2 := hlen
    subst hlen
    obtain ⟨v, r, rfl, rfl⟩ := am_sl1_inv hdo
    exact lv_lstore hx hb hdec hl hn rfl (fun ls1 hl1 => k ls1 H locs I (am_s2_has (v := .long v) hl1))
  case astore_n n =>
    obtain ⟨hlen, hn⟩ := hlo
    have hlen : len = 1 := hlen
    subst hlen
    obtain ⟨v, r, rfl, rfl⟩ := am_sa1_inv hdo
    have K := fun (ls1 : Array Slot) hl1 => k ls1 H locs I (am_s1_has (v := .ref v) hl1)
    match v, K with
    | 0, K => exact lv_astore_n hx hb hdec rfl hl hn rfl K
    | 1, K => exact lv_astore_n hx hb hdec rfl hl hn rfl K
    | j + 2, K => exact lv_astore_n hx hb hdec rfl hl hn rfl K
  case astore n =>
    obtain ⟨hlen, hn⟩ := hlo
    have hlen : len = 2 := hlen
    subst hlen
    obtain ⟨v, r, rfl, rfl⟩ := am_sa1_inv hdo
    have K := fun (ls1 : Array Slot) hl1 => k ls1 H locs I (am_s1_has (v := .ref v) hl1)
    match v, K with
    | 0, K => exact lv_astore hx hb hdec hl hn rfl K
    | 1, K => exact lv_astore hx hb hdec hl hn rfl K
    | j + 2, K => exact lv_astore hx hb hdec hl hn rfl K
  case iinc i n =>
    obtain ⟨hlen, hn⟩ := hlo
    have hlen : len = 3 := hlen
    subst hlen
    obtain ⟨v, hv, rfl⟩ := am_inc_inv hdo
    obtain ⟨kx, hkx⟩ := am_lk_ix (base := base) (b := b) (t := t) hv
    exact lv_iinc hx hb hdec hl hkx rfl hn rfl (fun ls1 hl1 => k ls1 H locs I (am_s1_has (v := .int (v + Int32.ofInt n)) hl1))
  case iadd =>
    have hlen : len = 1 := hlo
    subst hlen
    obtain ⟨a, y, v, r, rfl, hf, rfl⟩ := am_ii_inv (f := fun x y => some (x + y)) hdo
    have hf : some (a + y) = some v := hf
    cases hf
    exact lv_iadd hx hb hdec (k ls H locs I hl)
  case isub =>
    have hlen : len = 1 := hlo
    subst hlen
    obtain ⟨a, y, v, r, rfl, hf, rfl⟩ := am_ii_inv (f := fun x y => some (x - y)) hdo
    have hf : some (a - y) = some v := hf
    cases hf
    exact lv_isub hx hb hdec (k ls H locs I hl)
  case imul =>
    have hlen : len = 1 := hlo
    subst hlen
    obtain ⟨a, y, v, r, rfl, hf, rfl⟩ := am_ii_inv (f := fun x y => some (x * y)) hdo
    have hf : some (a * y) = some v := hf
    cases hf
    exact lv_imul hx hb hdec (k ls H locs I hl)
  case iand =>
    have hlen : len = 1 := hlo
    subst hlen
    obtain ⟨a, y, v, r, rfl, hf, rfl⟩ := am_ii_inv (f := fun x y => some (x &&& y)) hdo
    have hf : some (a &&& y) = some v := hf
    cases hf
    exact lv_iand hx hb hdec (k ls H locs I hl)
  case ior =>
    have hlen : len = 1 := hlo
    subst hlen
    obtain ⟨a, y, v, r, rfl, hf, rfl⟩ := am_ii_inv (f := fun x y => some (x ||| y)) hdo
    have hf : some (a ||| y) = some v := hf
    cases hf
    exact lv_ior hx hb hdec (k ls H locs I hl)
  case idiv =>
    have hlen : len = 1 := hlo
    subst hlen
    obtain ⟨a, y, v, r, rfl, hf, rfl⟩ := am_ii_inv hdo
    have hf : (if y = 0 then none else some (a / y)) = some v := hf
    by_cases h0 : y = 0
    · rw [if_pos h0] at hf
      cases hf
    · rw [if_neg h0] at hf
      cases hf
      exact lv_idiv hx hb hdec h0 (k ls H locs I hl)
  case irem =>
    have hlen : len = 1 := hlo
    subst hlen
    obtain ⟨a, y, v, r, rfl, hf, rfl⟩ := am_ii_inv hdo
    have hf : (if y = 0 then none else some (a - a / y * y)) = some v := hf
    by_cases h0 : y = 0
    · rw [if_pos h0] at hf
      cases hf
    · rw [if_neg h0] at hf
      cases hf
      exact lv_irem hx hb hdec h0 (k ls H locs I hl)
  case ladd =>
    have hlen : len = 1 := hlo
    subst hlen
    obtain ⟨a, y, r, rfl, rfl⟩ := am_ll_inv hdo
    exact lv_ladd hx hb hdec (k ls H locs I hl)
  case lmul =>
    have hlen : len = 1 := hlo
    subst hlen
    obtain ⟨a, y, r, rfl, rfl⟩ := am_ll_inv hdo
    exact lv_lmul hx hb hdec (k ls H locs I hl)
  case land =>
    have hlen : len = 1 := hlo
    subst hlen
    obtain ⟨a, y, r, rfl, rfl⟩ := am_ll_inv hdo
    exact lv_land hx hb hdec (k ls H locs I hl)
  case lor =>
    have hlen : len = 1 := hlo
    subst hlen
    obtain ⟨a, y, r, rfl, rfl⟩ := am_ll_inv hdo
    exact lv_lor hx hb hdec (k ls H locs I hl)
  case lcmp =>
    have hlen : len = 1 := hlo
    subst hlen
    obtain ⟨a, y, r, rfl, rfl⟩ := am_ll_inv hdo
    exact W.lcmp hx hb hdec (k ls H locs I hl)
  case lshl =>
    have hlen : len = 1 := hlo
    subst hlen
    obtain ⟨a, y, r, rfl, rfl⟩ := am_li_inv hdo
    exact lv_lshl hx hb hdec rfl (k ls H locs I hl)
  case lushr =>
    have hlen : len = 1 := hlo
    subst hlen
    obtain ⟨a, y, r, rfl, rfl⟩ := am_li_inv hdo
    exact lv_lushr hx hb hdec rfl (k ls H locs I hl)
  case i2l =>
    have hlen : len = 1 := hlo
    subst hlen
    obtain ⟨a, r, rfl, rfl⟩ := am_ui_inv hdo
    exact lv_i2l hx hb hdec rfl (k ls H locs I hl)
  case i2c =>
    have hlen : len = 1 := hlo
    subst hlen
    obtain ⟨a, r, rfl, rfl⟩ := am_ui_inv hdo
    exact lv_i2c hx hb hdec rfl (k ls H locs I hl)
  case l2i =>
    have hlen : len = 1 := hlo
    subst hlen
    obtain ⟨a, r, rfl, rfl⟩ := am_ul_inv hdo
    exact lv_l2i hx hb hdec rfl (k ls H locs I hl)
  case ifCond cnd off =>
    obtain ⟨hlen, ht⟩ := hlo
    have hlen : len = 3 := hlen
    subst hlen
    obtain ⟨a, r, rfl, rfl⟩ := am_b1_inv hdo
    cases cnd with
    | eq =>
      refine lv_if_eq hx hb hdec ht (fun hc => ?_) (fun hc => ?_)
      · have K := k ls H locs I hl
        rw [show am_if .eq a 0 = true from decide_eq_true hc] at K
        exact K
      · have K := k ls H locs I hl
        rw [show am_if .eq a 0 = false from decide_eq_false hc] at K
        exact K
    | ne =>
      refine lv_if_ne hx hb hdec ht (fun hc => ?_) (fun hc => ?_)
      · have K := k ls H locs I hl
        rw [show am_if .ne a 0 = true from decide_eq_true hc] at K
        exact K
      · have K := k ls H locs I hl
        rw [show am_if .ne a 0 = false from decide_eq_false (not_not_intro hc)] at K
        exact K
    | lt =>
      refine lv_if_lt hx hb hdec ht (fun hc => ?_) (fun hc => ?_)
      · have K := k ls H locs I hl
        rw [show am_if .lt a 0 = true from decide_eq_true hc] at K
        exact K
      · have K := k ls H locs I hl
        rw [show am_if .lt a 0 = false from decide_eq_false hc] at K
        exact K
    | ge =>
      refine lv_if_ge hx hb hdec ht (fun hc => ?_) (fun hc => ?_)
      · have K := k ls H locs I hl
        rw [show am_if .ge a 0 = true from decide_eq_true hc] at K
        exact K
      · have K := k ls H locs I hl
        rw [show am_if .ge a 0 = false from decide_eq_false hc] at K
        exact K
    | gt =>
      refine lv_if_gt hx hb hdec ht (fun hc => ?_) (fun hc => ?_)
      · have K := k ls H locs I hl
        rw [show am_if .gt a 0 = true from decide_eq_true hc] at K
        exact K
      · have K := k ls H locs I hl
        rw [show am_if .gt a 0 = false from decide_eq_false hc] at K
        exact K
    | le =>
      refine lv_if_le hx hb hdec ht (fun hc => ?_) (fun hc => ?_)
      · have K := k ls H locs I hl
        rw [show am_if .le a 0 = true from decide_eq_true hc] at K
        exact K
      · have K := k ls H locs I hl
        rw [show am_if .le a 0 = false from decide_eq_false hc] at K
        exact K
  case if_icmp cnd off =>
    obtain ⟨hlen, ht⟩ := hlo
    have hlen : len = 3 := hlen
    subst hlen
    obtain ⟨a, y, r, rfl, rfl⟩ := am_b2_inv hdo
    cases cnd with
    | eq =>
      refine lv_icmp_eq hx hb hdec ht (fun hc => ?_) (fun hc => ?_)
      · have K := k ls H locs I hl
        rw [show am_if .eq a y = true from decide_eq_true hc] at K
        exact K
      · have K := k ls H locs I hl
        rw [show am_if .eq a y = false from decide_eq_false hc] at K
        exact K
    | ne =>
      refine lv_icmp_ne hx hb hdec ht (fun hc => ?_) (fun hc => ?_)
      · have K := k ls H locs I hl
        rw [show am_if .ne a y = true from decide_eq_true hc] at K
        exact K
      · have K := k ls H locs I hl
        rw [show am_if .ne a y = false from decide_eq_false (not_not_intro hc)] at K
        exact K
    | lt =>
      refine lv_icmp_lt hx hb hdec ht (fun hc => ?_) (fun hc => ?_)
      · have K := k ls H locs I hl
        rw [show am_if .lt a y = true from decide_eq_true hc] at K
        exact K
      · have K := k ls H locs I hl
        rw [show am_if .lt a y = false from decide_eq_false hc] at K
        exact K
    | ge =>
      refine lv_icmp_ge hx hb hdec ht (fun hc => ?_) (fun hc => ?_)
      · have K := k ls H locs I hl
        rw [show am_if .ge a y = true from decide_eq_true hc] at K
        exact K
      · have K := k ls H locs I hl
        rw [show am_if .ge a y = false from decide_eq_false hc] at K
        exact K
    | gt =>
      refine lv_icmp_gt hx hb hdec ht (fun hc => ?_) (fun hc => ?_)
      · have K := k ls H locs I hl
        rw [show am_if .gt a y = true from decide_eq_true hc] at K
        exact K
      · have K := k ls H locs I hl
        rw [show am_if .gt a y = false from decide_eq_false hc] at K
        exact K
    | le =>
      refine lv_icmp_le hx hb hdec ht (fun hc => ?_) (fun hc => ?_)
      · have K := k ls H locs I hl
        rw [show am_if .le a y = true from decide_eq_true hc] at K
        exact K
      · have K := k ls H locs I hl
        rw [show am_if .le a y = false from decide_eq_false hc] at K
        exact K
  case goto off =>
    obtain ⟨hlen, ht⟩ := hlo
    have hlen : len = 3 := hlen
    subst hlen
    obtain rfl := Option.some.inj hdo
    exact lv_goto hx hb hdec ht (k ls H locs I hl)
  case tableswitch dflt lo hi offs =>
    obtain ⟨a, tgt, r, rfl, hf, rfl⟩ := am_sw_inv hdo
    unfold am_ts at hf
    by_cases hc : a.toInt < lo ∨ hi < a.toInt
    · rw [if_pos hc] at hf
      exact lv_tableOut hx hb hdec hc (am_to_eq hf) (k ls H locs I hl)
    · rw [if_neg hc] at hf
      cases ho : offs[(a.toInt - lo).toNat]? with
      | none => rw [ho] at hf; cases hf
      | some off =>
        rw [ho] at hf
        exact lv_tableIn hx hb hdec (fun w => hc (Or.inl w)) (fun w => hc (Or.inr w)) ho (am_to_eq hf) (k ls H locs I hl)
  case lookupswitch dflt ps =>
    obtain ⟨a, tgt, r, rfl, hf, rfl⟩ := am_sw_inv hdo
    exact lv_lookup hx hb hdec hlo rfl (am_to_eq hf) (k ls H locs I hl)
  case dup =>
    have hlen : len = 1 := hlo
    subst hlen
    obtain ⟨v, r, rfl, hc, rfl⟩ := am_dup_inv hdo
    exact lv_dup hx hb hdec ((am_tr_cat base b t v).trans hc) (k ls H locs I hl)
  case pop =>
    have hlen : len = 1 := hlo
    subst hlen
    obtain ⟨v, r, rfl, hc, rfl⟩ := am_pop_inv hdo
    exact lv_pop hx hb hdec ((am_tr_cat base b t v).trans hc) (k ls H locs I hl)
  case getfield n =>
    obtain ⟨hlen, hfl⟩ := hlo
    have hlen : len = 3 := hlen
    subst hlen
    exact am_pget O F I hl hdec hfl hdo k
  case putfield n =>
    obtain ⟨hlen, hfl, hfi⟩ := hlo
    have hlen : len = 3 := hlen
    subst hlen
    exact am_pput O F I hl hdec hfl hfi hdo k
  case getstatic n =>
    obtain ⟨hlen, hmem⟩ := hlo
    have hlen : len = 3 := hlen
    subst hlen
    obtain rfl := Option.some.inj hdo
    exact va_gets hx hb hO.2.2.2 I.2.2 hown (hts _ hmem) (fun y hy => hy) hdec (k ls H locs I hl)
  case iaload =>
    have hlen : len = 1 := hlo
    subst hlen
    exact am_pildi O F I hl hdec hdo k
  case caload =>
    have hlen : len = 1 := hlo
    subst hlen
    exact am_pildc O F I hl hdec hdo k
  case laload =>
    have hlen : len = 1 := hlo
    subst hlen
    exact am_plld O F I hl hdec hdo k
  case iastore =>
    have hlen : len = 1 := hlo
    subst hlen
    exact am_psti O F I hl hdec hdo k
  case castore =>
    have hlen : len = 1 := hlo
    subst hlen
    exact am_pstc O F I hl hdec hdo k
  case arraylength =>
    have hlen : len = 1 := hlo
    subst hlen
    exact am_plen O F I hl hdec hdo k
  case invokespecial n =>
    obtain ⟨hlen, hq⟩ := hlo
    have hlen : len = 3 := hlen
    subst hlen
    rcases hq with ⟨-, hmem⟩ | ⟨hne, -⟩
    · exact am_poi O F I hl hd hdec hmem hdo k
    · have hkd : (bif x1 == 1002 then 0 else 1) = 0 := hkd
      have hne : x1 ≠ 1002 := hne
      rw [beq_false_of_ne hne] at hkd
      cases hkd
  case invokestatic n =>
    obtain ⟨hlen, hq⟩ := hlo
    have hlen : len = 3 := hlen
    subst hlen
    rcases hq with ⟨h1, hmem⟩ | ⟨h1, hmem⟩ | ⟨hne, hne2, -⟩
    · have h1 : x1 = 1000 := h1
      subst h1
      exact am_pmax O F I hl hd hcs hdec hmem hdo k
    · have h1 : x1 = 1001 := h1
      subst h1
      exact am_pacp O F I hl hd hdec hmem hdo k
    · have hkd : (bif x1 == 1000 then 0 else bif x1 == 1001 then 0 else 1) = 0 := hkd
      have hne : x1 ≠ 1000 := hne
      have hne2 : x1 ≠ 1001 := hne2
      rw [beq_false_of_ne hne, beq_false_of_ne hne2] at hkd
      cases hkd
  all_goals first
    | exact absurd (show (none : Option am_Z) = some z from hdo) (by simp)
    | exact absurd (show (1 : Nat) = 0 from hkd) (by decide)
    | exact absurd (show (2 : Nat) = 0 from hkd) (by decide)
    | exact absurd (show (3 : Nat) = 0 from hkd) (by decide)
end AMT
end
section
def am_Pc (C : am_C) (D : va_G) (cI cC : ClassId) (base b t : Nat) (vs : List Value) (h : List am_E) : Array Value → State → Prop := va_Pc (vs.map (am_tr base b t)) (fun U => U.heap.size = base + h.length ∧ va_P D C.2.1 (am_w base b t cI cC h) U.heap ∧ va_K D C.2.1 [(cI, .int), (cC, .char)] U ∧ am_Old C base b t U U.heap)
def am_Qc (C : am_C) (D : va_G) (cI cC : ClassId) (base b t : Nat) (r : Option Value) (h h1 : List am_E) (c1 : Nat) : Array Value → State → Outcome → State → Prop := fun _ st oc u => (oc = .returned (r.map (am_tr base b t)) ∧ h1.length = h.length + c1 ∧ va_P D C.2.1 (am_w base b t cI cC h1) u.heap) ∧ va_F (am_A base) st u
def am_rm (d c1 s1 : Nat) : Room := { frames := d, cells := c1, slots := s1, locals := 64 * d }
theorem am_blind (C : am_C) (D : va_G) (cI cC : ClassId) (base b t : Nat) (vs : List Value) (h : List am_E) : FrameBlind (am_Pc C D cI cC base b t vs h) := fun a U g mk q => by
  obtain ⟨q0, q1, qP, qK, qO⟩ := q
  exact ⟨q0, q1, qP, va_K.moved (u := U) (U := U.calling g mk a) (Vm.Alike.refl U.vm) qK, am_Old.moved (u := U) (U := U.calling g mk a) (Vm.Alike.refl U.vm) qO⟩
theorem am_tr_dv (base b t : Nat) (ty : FieldType) : am_tr base b t (defaultValue ty) = defaultValue ty := by cases ty <;> rfl
section AMU
variable {C : am_C} {G : List Cond} {D : va_G} {cI cC : ClassId} {base b t : Nat} {p : Program} {l : Launch} {e : Env} {R : Room} {s : State} {m : MethodId} {args : Array Value} {below : List Frame} {meth : Method} {c : Code} {M : am_M} {H : Heap} {locs : List Loc} {cells slots : Nat} {Q : State → Prop} {pc : Nat} {ls : Array Slot} {lv : am_V} {st : List Value} {h : List am_E}
theorem am_back {a : Array Value} {st0 rest : List Value} {r : Option Value} {h1 : List am_E} {c1 s1 : Nat} (I : am_N C D cI cC base b t s cells h H locs)
    (hr : va_Run p l e R s m args below meth c H locs cells slots c1 s1 (F0 m pc ls st0) rest (am_Qc C D cI cC base b t r h h1 c1 a) (am_A base))
    (kk : ∀ (H1 : Heap) (locs1 : List Loc), am_N C D cI cC base b t s (cells + c1) h1 H1 locs1 → W p l e R s m args below meth c H1 locs1 (cells + c1) (slots + s1) Q (F0 m (pc + 3) ls ((r.map (am_tr base b t)).toList ++ rest))) : W p l e R s m args below meth c H locs cells slots Q (F0 m pc ls st0) := by
  intro T hT X
  obtain ⟨v, st₀, u, T', L, h0, X', hL, e1, e2, ⟨⟨hv, hlen, hP1⟩, hz, hk⟩, st⟩ := hr T hT X
  cases hv
  rw [h0] at hz hk
  have hS := I.2.2
  have hN : am_N C D cI cC base b t s (cells + c1) h1 T'.heap (locs ++ L) := by
    refine ⟨by rw [e1]; exact hP1, by rw [hlen]; have := I.2.1; omega, Nat.le_trans hS.1 (by rw [e1]; exact hz), fun q g1 g2 => ?_, fun q hq => ?_⟩
    · rw [e1, hk q (Nat.lt_of_lt_of_le g1 hS.1) g2]
      exact hS.2.1 q g1 g2
    · rcases List.mem_append.mp hq with g | g
      · exact hS.2.2 q g
      · exact hL q g
  obtain ⟨t2, a1, b1⟩ := kk T'.heap (locs ++ L) hN T' rfl X'
  exact ⟨t2, st t2 a1, b1⟩
theorem am_ent {vs : List Value} (F : am_F C G D cI cC base b t p s m args meth c M) (I : am_N C D cI cC base b t s cells h H locs) (hz : H.size = base + h.length) (U : State) (hU : U.heap = H) (hW : s.WarmedH U.vm) : am_Pc C D cI cC base b t vs h (vs.map (am_tr base b t)).toArray U := by
  obtain ⟨hx, hb, hml, hown, hts, hr, hlk, hnm, hK, hO, hbs⟩ := F
  refine ⟨rfl, by rw [hU]; exact hz, by rw [hU]; exact I.1, va_K.moved hW.alike hK, ?_⟩
  rw [hU]
  exact (am_Old.moved hW.alike hO).kept (fun a g1 g2 => I.2.2.2.1 a g1 g2)
theorem am_good (O : am_OK C G) {w : Cond} (h : w ∈ G) : w ∈ G ∧ ((w.onTables && w.keeps) = true ∨ ∃ ty, w = .arrayClass ty) := ⟨h, O.1.1 w h⟩
/-- a call -/
theorem am_pc {i : Instr} {len d1 c1 s1 : Nat} {x : am_X} {z : Nat × List Value × List Value} {r : Option Value} {h1 : List am_E} (O : am_OK C G) (F : am_F C G D cI cC base b t p s m args meth c M) (I : am_N C D cI cC base b t s cells h H locs) (hl : lv_has ls M.2.2.1 (am_lm base b t lv)) (hd : d1 + 1 ≤ R.frames ∧ 64 * (d1 + 1) ≤ R.locals) (hcs : cells + c1 ≤ R.cells ∧ slots + s1 ≤ R.slots) (hok : am_ok C G M (pc, i, len, x)) (hkd : am_kd i x = 1) (hdc : am_dc C i x st h = some z)
    (hM : ∀ N : am_M, C.1[z.1]? = some N → z.1 ≠ 0 → (lg_sl z.2.1).length ≤ N.2.2.1 → Met l N.1 (Cond.code N.1 N.2.1 N.2.2.1 N.2.2.2.1 :: G) (am_rm d1 c1 s1) (am_Pc C D cI cC base b t z.2.1 h) (am_Qc C D cI cC base b t r h h1 c1) c1 s1 (am_A base))
    (kk : ∀ (H1 : Heap) (locs1 : List Loc), am_N C D cI cC base b t s (cells + c1) h1 H1 locs1 → W p l e R s m args below meth c H1 locs1 (cells + c1) (slots + s1) Q (F0 m (pc + 3) ls ((r.toList ++ z.2.2).map (am_tr base b t)))) : W p l e R s m args below meth c H locs cells slots Q (F0 m pc ls (st.map (am_tr base b t))) := by
  refine am_small (fun hz0 => ?_)
  have FX := F
  obtain ⟨hx, hb, hml, hown, hts, hr, hlk, hnm, hK, hO, hbs⟩ := FX
  have hz := I.size hbs hz0
  obtain ⟨x1, x2, x3, x4⟩ := x
  have hdec : decode M.2.1 pc = .ok (i, len) := hok.1
  have hlo : am_lo C G M pc i len (x1, x2, x3, x4) := hok.2
  clear hok
  have kk : ∀ (H1 : Heap) (locs1 : List Loc), am_N C D cI cC base b t s (cells + c1) h1 H1 locs1 → W p l e R s m args below meth c H1 locs1 (cells + c1) (slots + s1) Q (F0 m (pc + 3) ls ((r.map (am_tr base b t)).toList ++ z.2.2.map (am_tr base b t))) := by
    intro H1 locs1 I1
    have K := kk H1 locs1 I1
    rw [List.map_append] at K
    cases r <;> exact K
  cases i
  case invokevirtual k0 =>
    obtain ⟨hlen, hne, N, ci, q, hN, hx4, hq, hqc, m1, m2, m3, m4⟩ := hlo
    have hlen : len = 3 := hlen
    subst hlen
    have hx4 : x4 = .ref ci := hx4
    subst hx4
    obtain ⟨j, fs, rr, N', hst, hln, hj, hN', hsl, h8, rfl⟩ := am_cv_inv hdc
    have hmc := (O.2.2 _ _ hN).2 hne
    refine am_back I (va_runV (As := ((st.take x2).reverse).map (am_tr base b t)) (rest := rr.map (am_tr base b t)) (C := N.1.cls) (b := base + j) (n := x2) ⟨hx, hb, hml, hown, hts⟩ (hM N hN hne (by cases hN.symm.trans hN'; exact hsl)) (cwV x2 hts ?_ rfl rfl rfl ⟨rfl, hmc.2.2.2.1.1, hmc.2.2.2.1.2, m4⟩ ⟨hd.1, ?_⟩) ⟨am_blind C D cI cC base b t _ h, ?_, ?_⟩ rfl ?_ hl.1 ?_ (lv_room (by rw [am_ca_tr]; exact h8)) hdec hcs) kk
    · intro w hw
      simp only [wsV, List.cons_append, List.nil_append, List.mem_cons] at hw
      rcases hw with rfl | rfl | rfl | rfl | rfl | hw
      · exact am_good O m1
      · exact am_good O m2
      · exact am_good O m3
      · exact am_good O hmc.2.1
      · exact am_good O hmc.1
      · exact am_good O hw
    · have := hmc.2.2.2.2
      show 8 + (N.2.2.1 + 11) + 64 * d1 ≤ R.locals
      omega
    · have hv := va_recv hK I.1 hq (am_w_at hj)
      rw [hqc] at hv
      exact hv
    · intro U hU hW
      exact am_ent F I hz U hU hW
    · rw [List.length_map, List.length_reverse]
      exact hln
    · exact (congrArg (List.map (am_tr base b t)) hst).trans (by rw [List.map_append, ← List.map_reverse, List.reverse_reverse]; rfl)
  case invokespecial k0 =>
    obtain ⟨hlen, hq⟩ := hlo
    have hlen : len = 3 := hlen
    subst hlen
    rcases hq with ⟨h1, -⟩ | ⟨-, hne, N, hN, m1, m2, m3, m4, m5⟩
    · have h1 : x1 = 1002 := h1
      subst h1
      exact absurd (show (0 : Nat) = 1 from hkd) (by decide)
    · obtain ⟨a, rr, N', hst, hln, hN', hsl, h8, rfl⟩ := am_ci_inv hdc
      have hmc := (O.2.2 _ _ hN).2 hne
      have hsl2 : (lg_sl (.ref a :: (st.take x2).reverse)).length ≤ N.2.2.1 := by cases hN.symm.trans hN'; exact hsl
      have hMet := hM N hN hne hsl2
      rw [m4] at hMet
      have hcode := hmc.1
      rw [m4] at hcode
      have hrun : ∀ a' : Nat, am_tr base b t (.ref a) = .ref a' → W p l e R s m args below meth c H locs cells slots Q (F0 m pc ls (st.map (am_tr base b t))) := by
        intro a' ha'
        refine am_back I (va_runI (As := ((st.take x2).reverse).map (am_tr base b t)) (rest := rr.map (am_tr base b t)) (b := a') (n := x2) (bytes := N.2.1) (maxL := N.2.2.1) ⟨hx, hb, hml, hown, hts⟩ hMet (cwI x2 hts ?_ rfl rfl rfl (hts _ hmc.2.1) (hts _ m1) (hts _ m2) m3 ⟨hmc.2.2.2.1.1, hmc.2.2.2.1.2, m5⟩ ⟨hd.1, ?_⟩) ⟨am_blind C D cI cC base b t _ h, ?_⟩ rfl ?_ hl.1 ?_ (lv_room (by rw [am_ca_tr]; exact h8)) hdec hcs) kk
        · intro w hw
          rcases List.mem_cons.mp hw with rfl | hw
          · exact am_good O hcode
          · exact am_good O hw
        · have := hmc.2.2.2.2
          show 8 + (N.2.2.1 + 11) + 64 * d1 ≤ R.locals
          omega
        · intro U hU hW
          have hE := am_ent (vs := .ref a :: (st.take x2).reverse) F I hz U hU hW
          rw [List.map_cons, ha'] at hE
          exact hE
        · rw [List.length_map, List.length_reverse]
          exact hln
        · exact (congrArg (List.map (am_tr base b t)) hst).trans (by rw [List.map_append, ← List.map_reverse, List.reverse_reverse, List.map_cons, ha'])
      match a, hrun with
      | 0, hrun => exact hrun b rfl
      | 1, hrun => exact hrun t rfl
      | j + 2, hrun => exact hrun (base + j) rfl
  case invokestatic k0 =>
    obtain ⟨hlen, hq⟩ := hlo
    have hlen : len = 3 := hlen
    subst hlen
    rcases hq with ⟨h1, -⟩ | ⟨h1, -⟩ | ⟨-, -, hne, N, hN, m1, m2, m3⟩
    · have h1 : x1 = 1000 := h1
      subst h1
      exact absurd (show (0 : Nat) = 1 from hkd) (by decide)
    · have h1 : x1 = 1001 := h1
      subst h1
      exact absurd (show (0 : Nat) = 1 from hkd) (by decide)
    · obtain ⟨N', hln, hN', hsl, h8, rfl⟩ := am_cs_inv hdc
      have hmc := (O.2.2 _ _ hN).2 hne
      have hsl2 : (lg_sl (st.take x2).reverse).length ≤ N.2.2.1 := by cases hN.symm.trans hN'; exact hsl
      refine am_back I (va_runS (As := ((st.take x2).reverse).map (am_tr base b t)) (rest := (st.drop x2).map (am_tr base b t)) (n := x2) ⟨hx, hb, hml, hown, hts⟩ (hM N hN hne hsl2) (va_cwS x2 hts ?_ rfl rfl rfl ⟨hmc.2.2.2.1.1, hmc.2.2.2.1.2, m3⟩ ⟨hd.1, ?_⟩) ⟨am_blind C D cI cC base b t _ h, ?_⟩ rfl ?_ hl.1 ?_ (lv_room (by rw [am_ca_tr]; exact h8)) hdec hcs) kk
      · intro w hw
        simp only [va_wsS, List.cons_append, List.nil_append, List.mem_cons] at hw
        rcases hw with rfl | rfl | rfl | rfl | hw
        · exact am_good O m1
        · exact am_good O m2
        · exact am_good O hmc.2.1
        · exact am_good O hmc.1
        · exact am_good O hw
      · have := hmc.2.2.2.2
        show 8 + (N.2.2.1 + 11) + 64 * d1 ≤ R.locals
        omega
      · intro U hU hW
        exact am_ent F I hz U hU hW
      · rw [List.length_map, List.length_reverse]
        exact hln
      · show st.map (am_tr base b t) = _
        rw [← List.map_reverse, List.reverse_reverse, ← List.map_append, List.take_append_drop]
  all_goals exact absurd (show (none : Option (Nat × List Value × List Value)) = some z from hdc) (by simp)
/-- a making -/
theorem am_pn {i : Instr} {len : Nat} {x : am_X} {z : Nat × List Value × am_E × Nat} (O : am_OK C G) (F : am_F C G D cI cC base b t p s m args meth c M) (I : am_N C D cI cC base b t s cells h H locs) (hl : lv_has ls M.2.2.1 (am_lm base b t lv)) (hcs : cells + 1 ≤ R.cells ∧ slots + z.2.2.2 ≤ R.slots) (hok : am_ok C G M (pc, i, len, x)) (hdn : am_dn C i x pc st = some z)
    (kk : ∀ (H1 : Heap), am_N C D cI cC base b t s (cells + 1) (h ++ [z.2.2.1]) H1 locs → W p l e R s m args below meth c H1 locs (cells + 1) (slots + z.2.2.2) Q (F0 m z.1 ls ((.ref (h.length + 2) :: z.2.1).map (am_tr base b t)))) : W p l e R s m args below meth c H locs cells slots Q (F0 m pc ls (st.map (am_tr base b t))) := by
  refine am_small (fun hz0 => ?_)
  obtain ⟨hx, hb, hml, hown, hts, hr, hlk, hnm, hK, hO, hbs⟩ := F
  have hz := I.size hbs hz0
  have hgrow : ∀ (H1 : Heap) (e1 : am_E), va_at D C.2.1 (base + h.length, am_e base b t cI cC e1) H1 → H1.size = H.size + 1 → (∀ q, q < H.size → H1[q]? = H[q]?) → am_N C D cI cC base b t s (cells + 1) (h ++ [e1]) H1 locs := by
    intro H1 e1 ha hs1 ho
    refine ⟨?_, ?_, ?_⟩
    · rw [am_w_push]
      refine (va_P.kept I.1 (fun k q hq => ho q.1 ((I.1 k q hq).lt))).app (fun k q hq => ?_)
      have hk1 : k < 1 := (List.getElem?_eq_some_iff.mp hq).1
      obtain rfl : k = 0 := by omega
      cases hq
      exact ha
    · rw [List.length_append, List.length_singleton]
      have := I.2.1
      omega
    · exact ⟨by have := I.2.2.1; omega, fun q g1 g2 => (ho q (Nat.lt_of_lt_of_le g1 I.2.2.1)).trans (I.2.2.2.1 q g1 g2), I.2.2.2.2⟩
  obtain ⟨x1, x2, x3, x4⟩ := x
  have hdec : decode M.2.1 pc = .ok (i, len) := hok.1
  have hlo : am_lo C G M pc i len (x1, x2, x3, x4) := hok.2
  clear hok
  cases i
  case newarray ty =>
    have hlen : len = 2 := hlo
    subst hlen
    obtain ⟨n, rr, tg, rfl, h0, h1, hty, rfl⟩ := am_na_inv hdn
    have hdv : (fun j => Value.int ((List.replicate n.toNatClampNeg (0 : Int32)).getD j 0)) = fun _ => Value.int 0 := by
      funext j
      rw [List.getD_eq_getElem?_getD, List.getElem?_replicate]
      split <;> rfl
    rcases hty with ⟨rfl, rfl⟩ | ⟨rfl, rfl⟩
    · refine va_newaK (atype := .int) (N := n.toNatClampNeg) hx hb (hts _ O.1.2.2.2.2.2.2.2.2.2.1) rfl hdec rfl h0 rfl (by show n.toNatClampNeg * 4 ≤ _; omega) hcs.1 hcs.2 hz fun H1 cA e1 z1 o1 hAr hNm => ?_
      have hcA : cA = cI := Option.some.inj (hNm.symm.trans (hK.2 0 _ rfl).2)
      subst hcA
      refine kk H1 (hgrow H1 _ ?_ (by rw [z1, hz]) (fun q g => o1 q (by rw [← hz]; exact g)))
      show H1[base + h.length]? = some (arrV cA (List.replicate n.toNatClampNeg (0 : Int32)).length (fun j => .int ((List.replicate n.toNatClampNeg (0 : Int32)).getD j 0)))
      rw [hdv, List.length_replicate, e1]
      rfl
    · refine va_newaK (atype := .char) (N := n.toNatClampNeg) hx hb (hts _ O.1.2.2.2.2.2.2.2.2.2.2) rfl hdec rfl h0 rfl (by show n.toNatClampNeg * 2 ≤ _; omega) hcs.1 hcs.2 hz fun H1 cA e1 z1 o1 hAr hNm => ?_
      have hcA : cA = cC := Option.some.inj (hNm.symm.trans (hK.2 1 _ rfl).2)
      subst hcA
      refine kk H1 (hgrow H1 _ ?_ (by rw [z1, hz]) (fun q g => o1 q (by rw [← hz]; exact g)))
      show H1[base + h.length]? = some (arrV cA (List.replicate n.toNatClampNeg (0 : Int32)).length (fun j => .int ((List.replicate n.toNatClampNeg (0 : Int32)).getD j 0)))
      rw [hdv, List.length_replicate, e1]
      rfl
  case new k0 =>
    obtain ⟨hlen, q, hq, hcl⟩ := hlo
    have hlen : len = 3 := hlen
    subst hlen
    have hq : C.2.1[x1]? = some q := hq
    have hco := O.2.1 _ _ hq
    have hdn : am_new C x1 pc st = some z := hdn
    unfold am_new at hdn
    rw [hq] at hdn
    obtain rfl := Option.some.inj hdn
    have hKn := hK.1 x1 _ hq
    refine W.newcK hx hb hown (hts _ hcl) (hts _ hco.2.2.2.1) (hts _ hco.2.2.2.2.1) rfl hdec hcs.1 hcs.2 hKn.2.1 hz fun H1 kC hkC e1 z1 o1 => ?_
    refine kk H1 (hgrow H1 _ ?_ (by rw [z1, hz]) (fun q g => o1 q (by rw [← hz]; exact g)))
    refine ⟨q, hq, (u_born (C.2.2.1 x1) hts hco.1 hKn hkC e1 hco.2.1).to ?_⟩
    intro j hj
    show defaultValue (C.2.2.1 x1 j) = ((((List.range q.2.2).map (fun j => defaultValue (C.2.2.1 x1 j))).map (am_tr base b t)).getD j .null)
    rw [List.getD_eq_getElem?_getD, List.getElem?_map, List.getElem?_map, List.getElem?_range hj]
    exact (am_tr_dv base b t _).symm
  all_goals exact absurd (show (none : Option (Nat × List Value × am_E × Nat)) = some z from hdn) (by simp)
/-- an end -/
theorem am_ret {i : Instr} {len : Nat} {x : am_X} {r : Option Value} {Qc : Array Value → State → Outcome → State → Prop} {free : Addr → Prop} (F : am_F C G D cI cC base b t p s m args meth c M) (hok : am_ok C G M (pc, i, len, x)) (hdr : am_dr M.2.2.2.1 i st = some r)
    (hq : ∀ u : State, u.heap = H → s.WarmedH u.vm → Qc args s (.returned (r.map (am_tr base b t))) u) (hf : ∀ q ∈ locs, free q.base) : W p l e R s m args below meth c H locs cells slots (MQ below Qc args s cells slots free) (F0 m pc ls (st.map (am_tr base b t))) := by
  obtain ⟨hx, hb, hml, hown, hts, hr, hlk, hnm, hK, hO, hbs⟩ := F
  have hdec : decode M.2.1 pc = .ok (i, len) := hok.1
  have hlo : am_lo C G M pc i len x := hok.2
  cases i
  case ireturn =>
    have hlen : len = 1 := hlo
    subst hlen
    have hdr : am_ri M.2.2.2.1 st = some r := hdr
    unfold am_ri at hdr
    rcases st with _ | ⟨v0, st⟩
    · exact absurd hdr (by simp)
    cases v0 with
    | int v =>
      rcases st with _ | ⟨v1, st⟩
      · generalize hre : M.2.2.2.1 = ret at hdr hr
        cases ret with
        | none => exact absurd hdr (by simp)
        | some ty =>
          cases ty with
          | int =>
            obtain rfl := Option.some.inj hdr
            exact W.iret hx hb hr hq hf hdec (hlocks := hlk)
          | boolean =>
            have hdr : (bif decide (v = 0) || decide (v = 1) then some (some (.int v)) else none) = some r := hdr
            cases hc : (decide (v = 0) || decide (v = 1)) with
            | false => rw [hc] at hdr; cases hdr
            | true =>
              rw [hc] at hdr
              obtain rfl := Option.some.inj hdr
              have hn : narrow .boolean (.int v) = .int v := (am_fi_ok base b t (ty := .boolean) (v := .int v) hc).1
              exact W.zret (ty := .boolean) hx hb hr hn hq hf hdec (hlocks := hlk)
          | _ => exact absurd hdr (by simp)
      · exact absurd hdr (by simp)
    | _ => exact absurd hdr (by simp)
  case lreturn =>
    have hlen : len = 1 := hlo
    subst hlen
    have hdr : am_rl M.2.2.2.1 st = some r := hdr
    unfold am_rl at hdr
    rcases st with _ | ⟨v0, st⟩
    · exact absurd hdr (by simp)
    cases v0 with
    | long v =>
      rcases st with _ | ⟨v1, st⟩
      · generalize hre : M.2.2.2.1 = ret at hdr hr
        cases ret with
        | none => exact absurd hdr (by simp)
        | some ty =>
          cases ty with
          | long =>
            obtain rfl := Option.some.inj hdr
            exact W.lret hx hb hr hq hf hdec (hlocks := hlk)
          | _ => exact absurd hdr (by simp)
      · exact absurd hdr (by simp)
    | _ => exact absurd hdr (by simp)
  case return_ =>
    have hlen : len = 1 := hlo
    subst hlen
    have hdr : am_rv M.2.2.2.1 st = some r := hdr
    unfold am_rv at hdr
    rcases st with _ | ⟨v0, st⟩
    · generalize hre : M.2.2.2.1 = ret at hdr hr
      cases ret with
      | none =>
        obtain rfl := Option.some.inj hdr
        exact W.vret hx hb hr hq hf hdec (hlocks := hlk)
      | some ty => exact absurd hdr (by simp)
    · exact absurd hdr (by simp)
  all_goals exact absurd (show (none : Option (Option Value)) = some r from hdr) (by simp)
end AMU
theorem am_kd_cases (i : Instr) (x : am_X) : am_kd i x = 0 ∨ am_kd i x = 1 ∨ am_kd i x = 2 ∨ am_kd i x = 3 := by
  cases i
  case invokespecial k =>
    show (bif x.1 == 1002 then 0 else 1) = 0 ∨ (bif x.1 == 1002 then 0 else 1) = 1 ∨ _
    cases (x.1 == 1002)
    · exact Or.inr (Or.inl rfl)
    · exact Or.inl rfl
  case invokestatic k =>
    show (bif x.1 == 1000 then 0 else bif x.1 == 1001 then 0 else 1) = 0 ∨ (bif x.1 == 1000 then 0 else bif x.1 == 1001 then 0 else 1) = 1 ∨ _
    cases (x.1 == 1000)
    · cases (x.1 == 1001)
      · exact Or.inr (Or.inl rfl)
      · exact Or.inl rfl
    · exact Or.inl rfl
  all_goals first
    | exact Or.inl rfl
    | exact Or.inr (Or.inl rfl)
    | exact Or.inr (Or.inr (Or.inl rfl))
    | exact Or.inr (Or.inr (Or.inr rfl))
/-- THE ABSTRACT MACHINE IS RIGHT: with fuel n -/
def am_S (C : am_C) (G : List Cond) (D : va_G) (cI cC : ClassId) (base b t n : Nat) : Prop :=
  ∀ (d mi pc : Nat) (lv : am_V) (st : List Value) (h : List am_E) (o : Option Value × List am_E × Nat × Nat), am_run C n d mi pc lv st h = some o →
  ∀ (p : Program) (l : Launch) (e : Env) (R : Room) (s : State) (m : MethodId) (args : Array Value) (below : List Frame) (meth : Method) (c : Code) (M : am_M) (H : Heap) (locs : List Loc) (cells slots : Nat) (Q : State → Prop) (ls : Array Slot),
    C.1[mi]? = some M → am_F C G D cI cC base b t p s m args meth c M → am_N C D cI cC base b t s cells h H locs → lv_has ls M.2.2.1 (am_lm base b t lv) → (d ≤ R.frames ∧ 64 * d ≤ R.locals) → cells + o.2.2.1 ≤ R.cells → slots + o.2.2.2 ≤ R.slots →
    (∀ (pc1 : Nat) (i1 : Instr) (len1 : Nat) (x1 : am_X) (ls1 : Array Slot) (H1 : Heap) (locs1 : List Loc) (st1 : List Value), am_ok C G M (pc1, i1, len1, x1) → am_dr M.2.2.2.1 i1 st1 = some o.1 → am_N C D cI cC base b t s (cells + o.2.2.1) o.2.1 H1 locs1 →
      W p l e R s m args below meth c H1 locs1 (cells + o.2.2.1) (slots + o.2.2.2) Q (F0 m pc1 ls1 (st1.map (am_tr base b t)))) →
    W p l e R s m args below meth c H locs cells slots Q (F0 m pc ls (st.map (am_tr base b t)))
theorem am_met {C : am_C} {G : List Cond} {D : va_G} {cI cC : ClassId} {base b t n d cal c1 s1 : Nat} {vs : List Value} {h h1 : List am_E} {r : Option Value} {N : am_M} {l : Launch} (O : am_OK C G) (S : am_S C G D cI cC base b t n) (hN : C.1[cal]? = some N) (hc0 : cal ≠ 0) (hsl : (lg_sl vs).length ≤ N.2.2.1) (hrun : am_run C n d cal 0 (lv_args 0 vs) [] h = some (r, h1, c1, s1)) :
    Met l N.1 (Cond.code N.1 N.2.1 N.2.2.1 N.2.2.2.1 :: G) (am_rm d c1 s1) (am_Pc C D cI cC base b t vs h) (am_Qc C D cI cC base b t r h h1 c1) c1 s1 (am_A base) := by
  have hmc := (O.2.2 cal N hN).2 hc0
  refine Met.ofW (cc := N.2.1) (maxL := N.2.2.1) (ret := N.2.2.2.1) hmc.2.2.1 rfl ?_
  intro p e s m args below meth c s₁ B hml hv
  obtain ⟨rfl, hsz, hP, hK, hOld⟩ := hv
  have hts := atoms_spec (ws := Cond.code N.1 N.2.1 N.2.2.1 N.2.2.2.1 :: G) B.pre
  have hown : s.vm.findClass N.1.cls = some m.cls := findClass_of_methodNamed B.named
  have hnm := (name_of_methodNamed B.named B.method).1
  have hl := lv_entry (vs.map (am_tr base b t)) (n := N.2.2.1) (by rw [am_sl_tr]; exact hsl)
  rw [lg_entry_eq]
  generalize (lg_sl (vs.map (am_tr base b t)) ++ List.replicate (N.2.2.1 - (lg_sl (vs.map (am_tr base b t))).length) Slot.unset).toArray = ls at hl ⊢
  rw [am_args_tr] at hl
  have F : am_F C G D cI cC base b t p s m (vs.map (am_tr base b t)).toArray meth c N := ⟨B.exec, B.bytes, hml, hown, fun w hw => hts w (List.mem_cons_of_mem _ hw), B.returns, B.notSynchronized, fun hi => hnm.trans hi, hK, hOld, by rw [hsz]; exact Nat.le_add_right _ _⟩
  refine S d cal 0 _ [] h _ hrun p l e _ s m _ below meth c N s.heap [] 0 0 _ ls hN F ⟨hP, by rw [hsz]; rfl, va_S.rf⟩ hl ⟨Nat.le_refl _, Nat.le_refl _⟩ (by show 0 + c1 ≤ c1; omega) (by show 0 + s1 ≤ s1; omega) ?_
  intro pc1 i1 len1 x1 ls1 H1 locs1 st1 hok hdr I1
  have I1 : am_N C D cI cC base b t s (0 + c1) h1 H1 locs1 := I1
  have hlen : h1.length = h.length + c1 := by have := I1.2.1; rw [hsz] at this; omega
  show W p l e _ s m _ below meth c H1 locs1 (0 + c1) (0 + s1) _ _
  rw [Nat.zero_add, Nat.zero_add]
  exact am_ret F hok hdr (fun u hu hW => ⟨⟨rfl, hlen, by rw [hu]; exact I1.1⟩, I1.2.2.F hu⟩) I1.2.2.2.2
theorem am_sim {C : am_C} {G : List Cond} {D : va_G} {cI cC : ClassId} {base b t : Nat} (O : am_OK C G) : ∀ n, am_S C G D cI cC base b t n := by
  intro n
  induction n with
  | zero =>
    intro d mi pc lv st h o hrun
    cases (show (none : Option (Option Value × List am_E × Nat × Nat)) = some o from hrun)
  | succ n ih =>
    intro d mi pc lv st h o hrun p l e R s m args below meth c M H locs cells slots Q ls hM F I hl hd hc hs hfin
    rw [am_run] at hrun
    cases hat : am_at C mi pc with
    | none => rw [hat] at hrun; cases hrun
    | some q =>
      obtain ⟨i, len, x⟩ := q
      rw [hat] at hrun
      have hat2 : am_ix M.2.2.2.2 pc = some (i, len, x) := by
        unfold am_at at hat
        rw [hM] at hat
        exact hat
      have hok : am_ok C G M (pc, i, len, x) := (O.2.2 mi M hM).1 _ (am_ix_mem hat2)
      have hrt : am_rt C mi = M.2.2.2.1 := by
        unfold am_rt
        rw [hM]
      rcases am_kd_cases i x with hkd | hkd | hkd | hkd
      · simp only [hkd] at hrun
        cases hdo : am_do C d i x pc lv st h with
        | none => rw [hdo] at hrun; cases hrun
        | some z =>
          rw [hdo] at hrun
          exact am_pl O F I hl hd ⟨by omega, by omega⟩ hok hkd hdo (fun ls1 H1 locs1 I1 hl1 => ih d mi z.1 z.2.1 z.2.2.1 z.2.2.2 o hrun p l e R s m args below meth c M H1 locs1 cells slots Q ls1 hM F I1 hl1 hd hc hs hfin)
      · simp only [hkd] at hrun
        cases hdc : am_dc C i x st h with
        | none => rw [hdc] at hrun; cases hrun
        | some z =>
          rw [hdc] at hrun
          cases d with
          | zero => cases hrun
          | succ d1 =>
            simp only at hrun
            cases hr1 : am_run C n d1 z.1 0 (lv_args 0 z.2.1) [] h with
            | none => rw [hr1] at hrun; cases hrun
            | some o1 =>
              rw [hr1] at hrun
              simp only at hrun
              cases hr2 : am_run C n (d1 + 1) mi (pc + 3) lv (o1.1.toList ++ z.2.2) o1.2.1 with
              | none => rw [hr2] at hrun; cases hrun
              | some o2 =>
                rw [hr2] at hrun
                obtain rfl := Option.some.inj hrun
                obtain ⟨r1, h1, c1, s1⟩ := o1
                obtain ⟨r2, h2, c2, s2⟩ := o2
                have hc : cells + (c1 + c2) ≤ R.cells := hc
                have hs : slots + (s1 + s2) ≤ R.slots := hs
                refine am_pc (c1 := c1) (s1 := s1) (r := r1) (h1 := h1) O F I hl hd ⟨by omega, by omega⟩ hok hkd hdc (fun N hN hne hsl => am_met O ih hN hne hsl hr1) (fun H1 locs1 I1 => ?_)
                refine ih (d1 + 1) mi (pc + 3) lv _ h1 _ hr2 p l e R s m args below meth c M H1 locs1 (cells + c1) (slots + s1) Q ls hM F I1 hl hd (by show cells + c1 + c2 ≤ _; omega) (by show slots + s1 + s2 ≤ _; omega) ?_
                intro pc1 i1 len1 x1 ls1 H2 locs2 st1 hok1 hdr1 I2
                have K := hfin pc1 i1 len1 x1 ls1 H2 locs2 st1 hok1 hdr1
                have K : am_N C D cI cC base b t s (cells + (c1 + c2)) h2 H2 locs2 → W p l e R s m args below meth c H2 locs2 (cells + (c1 + c2)) (slots + (s1 + s2)) Q (F0 m pc1 ls1 (st1.map (am_tr base b t))) := K
                rw [← Nat.add_assoc, ← Nat.add_assoc] at K
                exact K I2
      · simp only [hkd] at hrun
        cases hdn : am_dn C i x pc st with
        | none => rw [hdn] at hrun; cases hrun
        | some z =>
          rw [hdn] at hrun
          simp only at hrun
          cases hr2 : am_run C n d mi z.1 lv (.ref (h.length + 2) :: z.2.1) (h ++ [z.2.2.1]) with
          | none => rw [hr2] at hrun; cases hrun
          | some o2 =>
            rw [hr2] at hrun
            obtain rfl := Option.some.inj hrun
            obtain ⟨r2, h2, c2, s2⟩ := o2
            have hc : cells + (1 + c2) ≤ R.cells := hc
            have hs : slots + (z.2.2.2 + s2) ≤ R.slots := hs
            refine am_pn O F I hl ⟨by omega, by omega⟩ hok hdn (fun H1 I1 => ?_)
            refine ih d mi z.1 lv _ _ _ hr2 p l e R s m args below meth c M H1 locs (cells + 1) (slots + z.2.2.2) Q ls hM F I1 hl hd (by show cells + 1 + c2 ≤ _; omega) (by show slots + z.2.2.2 + s2 ≤ _; omega) ?_
            intro pc1 i1 len1 x1 ls1 H2 locs2 st1 hok1 hdr1 I2
            have K := hfin pc1 i1 len1 x1 ls1 H2 locs2 st1 hok1 hdr1
            have K : am_N C D cI cC base b t s (cells + (1 + c2)) h2 H2 locs2 → W p l e R s m args below meth c H2 locs2 (cells + (1 + c2)) (slots + (z.2.2.2 + s2)) Q (F0 m pc1 ls1 (st1.map (am_tr base b t))) := K
            rw [← Nat.add_assoc, ← Nat.add_assoc] at K
            exact K I2
      · simp only [hkd] at hrun
        rw [hrt] at hrun
        cases hdr : am_dr M.2.2.2.1 i st with
        | none => rw [hdr] at hrun; cases hrun
        | some r =>
          rw [hdr] at hrun
          obtain rfl := Option.some.inj hrun
          exact hfin pc i len x ls H locs st hok hdr I
end
section
/-! Runs of the abstract machine put together; more fuel, and the script laid beside, change nothing. -/
theorem am_ld_mono {tg : Bool} {xs : Option (List Int32)} {pc : Nat} {lv : am_V} {st : List Value} {h : List am_E} {z : am_Z} (hdo : am_ld tg none pc lv st h = some z) : am_ld tg xs pc lv st h = some z := by
  obtain ⟨i, r, v, h0, rfl, hc⟩ := am_ld_inv hdo
  rcases hc with ⟨rfl, rfl, hv⟩ | ⟨j, a, rfl, hj, hv⟩
  · simp at hv
  · simp [am_ld, am_ar, hj, hv, h0]
theorem am_len_mono {xs : Option (List Int32)} {wd : List Int64} {pc : Nat} {lv : am_V} {st : List Value} {h : List am_E} {z : am_Z} (hdo : am_len none wd pc lv st h = some z) : am_len xs wd pc lv st h = some z := by
  rcases st with _ | ⟨v0, r⟩
  · exact absurd hdo (by simp [am_len])
  · cases v0 with
    | ref a =>
      match a, hdo with
      | 0, hdo => exact absurd hdo (by simp [am_len])
      | 1, hdo => exact hdo
      | j + 2, hdo => exact hdo
    | _ => exact absurd hdo (by simp [am_len])
theorem am_do_mono {P : List am_M} {cl : List vw_C} {ty : Nat → Nat → FieldType} {xs ys : Option (List Int32)} {wd : List Int64} (hxs : xs = none ∨ xs = ys) {d : Nat} {i : Instr} {x : am_X} {pc : Nat} {lv : am_V} {st : List Value} {h : List am_E} {z : am_Z} (hdo : am_do (P, cl, ty, xs, wd) d i x pc lv st h = some z) : am_do (P, cl, ty, ys, wd) d i x pc lv st h = some z := by
  rcases hxs with rfl | rfl
  · cases i
    case iaload => exact am_ld_mono hdo
    case caload => exact am_ld_mono hdo
    case arraylength => exact am_len_mono hdo
    all_goals exact hdo
  · exact hdo
theorem am_mono {P : List am_M} {cl : List vw_C} {ty : Nat → Nat → FieldType} {xs ys : Option (List Int32)} {wd : List Int64} (hxs : xs = none ∨ xs = ys) : ∀ n n' : Nat, n ≤ n' → ∀ (d mi pc : Nat) (lv : am_V) (st : List Value) (h : List am_E) (o : Option Value × List am_E × Nat × Nat), am_run (P, cl, ty, xs, wd) n d mi pc lv st h = some o → am_run (P, cl, ty, ys, wd) n' d mi pc lv st h = some o := by
  intro n
  induction n with
  | zero =>
    intro n' _ d mi pc lv st h o hrun
    cases (show (none : Option (Option Value × List am_E × Nat × Nat)) = some o from hrun)
  | succ n ih =>
    intro n' hn d mi pc lv st h o hrun
    obtain ⟨k, rfl⟩ : ∃ k, n' = k + 1 := ⟨n' - 1, by omega⟩
    have hk : n ≤ k := by omega
    rw [am_run] at hrun ⊢
    have e1 : am_at (P, cl, ty, ys, wd) mi pc = am_at (P, cl, ty, xs, wd) mi pc := rfl
    rw [e1]
    cases hat : am_at (P, cl, ty, xs, wd) mi pc with
    | none => rw [hat] at hrun; cases hrun
    | some q =>
      rw [hat] at hrun
      rcases am_kd_cases q.1 q.2.2 with hkd | hkd | hkd | hkd
      · simp only [hkd] at hrun ⊢
        cases hdo : am_do (P, cl, ty, xs, wd) d q.1 q.2.2 pc lv st h with
        | none => rw [hdo] at hrun; cases hrun
        | some z =>
          rw [hdo] at hrun
          rw [am_do_mono hxs hdo]
          exact ih k hk d mi _ _ _ _ o hrun
      · simp only [hkd] at hrun ⊢
        have e2 : am_dc (P, cl, ty, ys, wd) q.1 q.2.2 st h = am_dc (P, cl, ty, xs, wd) q.1 q.2.2 st h := rfl
        rw [e2]
        cases hdc : am_dc (P, cl, ty, xs, wd) q.1 q.2.2 st h with
        | none => rw [hdc] at hrun; cases hrun
        | some z =>
          rw [hdc] at hrun
          cases d with
          | zero => cases hrun
          | succ d1 =>
            simp only at hrun ⊢
            cases hr1 : am_run (P, cl, ty, xs, wd) n d1 z.1 0 (lv_args 0 z.2.1) [] h with
            | none => rw [hr1] at hrun; cases hrun
            | some o1 =>
              rw [hr1] at hrun
              rw [ih k hk d1 _ _ _ _ _ o1 hr1]
              simp only at hrun ⊢
              cases hr2 : am_run (P, cl, ty, xs, wd) n (d1 + 1) mi (pc + 3) lv (o1.1.toList ++ z.2.2) o1.2.1 with
              | none => rw [hr2] at hrun; cases hrun
              | some o2 =>
                rw [hr2] at hrun
                rw [ih k hk (d1 + 1) _ _ _ _ _ o2 hr2]
                exact hrun
      · simp only [hkd] at hrun ⊢
        have e2 : am_dn (P, cl, ty, ys, wd) q.1 q.2.2 pc st = am_dn (P, cl, ty, xs, wd) q.1 q.2.2 pc st := rfl
        rw [e2]
        cases hdn : am_dn (P, cl, ty, xs, wd) q.1 q.2.2 pc st with
        | none => rw [hdn] at hrun; cases hrun
        | some z =>
          rw [hdn] at hrun
          simp only at hrun ⊢
          cases hr2 : am_run (P, cl, ty, xs, wd) n d mi z.1 lv (.ref (h.length + 2) :: z.2.1) (h ++ [z.2.2.1]) with
          | none => rw [hr2] at hrun; cases hrun
          | some o2 =>
            rw [hr2] at hrun
            rw [ih k hk d _ _ _ _ _ o2 hr2]
            exact hrun
      · simp only [hkd] at hrun ⊢
        have e2 : am_rt (P, cl, ty, ys, wd) mi = am_rt (P, cl, ty, xs, wd) mi := rfl
        rw [e2]
        exact hrun
/-- the run comes to its end with o -/
def am_G (C : am_C) (d mi pc : Nat) (lv : am_V) (st : List Value) (h : List am_E) (o : Option Value × List am_E × Nat × Nat) : Prop := ∃ n, am_run C n d mi pc lv st h = some o
theorem am_gx {P : List am_M} {cl : List vw_C} {ty : Nat → Nat → FieldType} {wd : List Int64} (ys : Option (List Int32)) {n d mi pc : Nat} {lv : am_V} {st : List Value} {h : List am_E} {o : Option Value × List am_E × Nat × Nat} (hr : am_run (P, cl, ty, none, wd) n d mi pc lv st h = some o) : am_G (P, cl, ty, ys, wd) d mi pc lv st h o := ⟨n, am_mono (Or.inl rfl) n n (Nat.le_refl n) d mi pc lv st h o hr⟩
theorem am_g0 {C : am_C} {d mi pc : Nat} {lv : am_V} {st : List Value} {h : List am_E} {o : Option Value × List am_E × Nat × Nat} {q : Instr × Nat × am_X} {z : am_Z} (hat : am_at C mi pc = some q) (hkd : am_kd q.1 q.2.2 = 0) (hdo : am_do C d q.1 q.2.2 pc lv st h = some z) (hg : am_G C d mi z.1 z.2.1 z.2.2.1 z.2.2.2 o) : am_G C d mi pc lv st h o := by
  obtain ⟨n, hn⟩ := hg
  refine ⟨n + 1, ?_⟩
  rw [am_run, hat]
  simp only [hkd, hdo]
  exact hn
theorem am_g1 {C : am_C} {d mi pc : Nat} {lv : am_V} {st : List Value} {h : List am_E} {o1 o2 : Option Value × List am_E × Nat × Nat} {q : Instr × Nat × am_X} {z : Nat × List Value × List Value} (hat : am_at C mi pc = some q) (hkd : am_kd q.1 q.2.2 = 1) (hdc : am_dc C q.1 q.2.2 st h = some z) (hg1 : am_G C d z.1 0 (lv_args 0 z.2.1) [] h o1) (hg2 : am_G C (d + 1) mi (pc + 3) lv (o1.1.toList ++ z.2.2) o1.2.1 o2) : am_G C (d + 1) mi pc lv st h (o2.1, o2.2.1, o1.2.2.1 + o2.2.2.1, o1.2.2.2 + o2.2.2.2) := by
  obtain ⟨n1, hn1⟩ := hg1
  obtain ⟨n2, hn2⟩ := hg2
  obtain ⟨P, cl, ty, xs, wd⟩ := C
  refine ⟨max n1 n2 + 1, ?_⟩
  have m1 := am_mono (xs := xs) (Or.inr rfl) n1 (max n1 n2) (Nat.le_max_left _ _) _ _ _ _ _ _ _ hn1
  have m2 := am_mono (xs := xs) (Or.inr rfl) n2 (max n1 n2) (Nat.le_max_right _ _) _ _ _ _ _ _ _ hn2
  rw [am_run, hat]
  simp only [hkd, hdc, m1, m2]
theorem am_g2 {C : am_C} {d mi pc : Nat} {lv : am_V} {st : List Value} {h : List am_E} {o : Option Value × List am_E × Nat × Nat} {q : Instr × Nat × am_X} {z : Nat × List Value × am_E × Nat} (hat : am_at C mi pc = some q) (hkd : am_kd q.1 q.2.2 = 2) (hdn : am_dn C q.1 q.2.2 pc st = some z) (hg : am_G C d mi z.1 lv (.ref (h.length + 2) :: z.2.1) (h ++ [z.2.2.1]) o) : am_G C d mi pc lv st h (o.1, o.2.1, 1 + o.2.2.1, z.2.2.2 + o.2.2.2) := by
  obtain ⟨n, hn⟩ := hg
  refine ⟨n + 1, ?_⟩
  rw [am_run, hat]
  simp only [hkd, hdn, hn]
theorem am_g3 {C : am_C} {d mi pc : Nat} {lv : am_V} {st : List Value} {h : List am_E} {q : Instr × Nat × am_X} {r : Option Value} (hat : am_at C mi pc = some q) (hkd : am_kd q.1 q.2.2 = 3) (hdr : am_dr (am_rt C mi) q.1 st = some r) : am_G C d mi pc lv st h (r, h, 0, 0) := by
  refine ⟨1, ?_⟩
  rw [am_run, hat]
  simp only [hkd, hdr]
/-- k steps -/
def am_ks (C : am_C) (d mi : Nat) : Nat → am_Z → Option am_Z
  | 0, z => some z
  | k + 1, z => match am_at C mi z.1 with
    | none => none
    | some q => bif am_kd q.1 q.2.2 == 0 then (match am_do C d q.1 q.2.2 z.1 z.2.1 z.2.2.1 z.2.2.2 with
      | none => none
      | some y => am_ks C d mi k y) else none
theorem am_gk {C : am_C} {d mi : Nat} {o : Option Value × List am_E × Nat × Nat} (k : Nat) : ∀ {y z : am_Z}, am_ks C d mi k y = some z → am_G C d mi z.1 z.2.1 z.2.2.1 z.2.2.2 o → am_G C d mi y.1 y.2.1 y.2.2.1 y.2.2.2 o := by
  induction k with
  | zero =>
    intro y z hk hg
    cases (show some y = some z from hk)
    exact hg
  | succ k ih =>
    intro y z hk hg
    rw [am_ks] at hk
    cases hat : am_at C mi y.1 with
    | none => rw [hat] at hk; cases hk
    | some q =>
      rw [hat] at hk
      simp only at hk
      cases hkd : (am_kd q.1 q.2.2 == 0) with
      | false => rw [hkd] at hk; cases hk
      | true =>
        rw [hkd, cond_true] at hk
        cases hdo : am_do C d q.1 q.2.2 y.1 y.2.1 y.2.2.1 y.2.2.2 with
        | none => rw [hdo] at hk; cases hk
        | some w =>
          rw [hdo] at hk
          exact am_g0 hat (eq_of_beq hkd) hdo (ih hk hg)
/-- k steps that lead from a frame to a frame; then the rest -/
theorem am_gn {C : am_C} {d mi : Nat} {o : Option Value × List am_E × Nat × Nat} (k : Nat) {pc pc1 : Nat} {lv lv1 : am_V} {st st1 : List Value} {h h1 : List am_E} (hk : am_ks C d mi k (pc, lv, st, h) = some (pc1, lv1, st1, h1)) (hg : am_G C d mi pc1 lv1 st1 h1 o) : am_G C d mi pc lv st h o := am_gk k (y := (pc, lv, st, h)) (z := (pc1, lv1, st1, h1)) hk hg
/-- a branch on a number against zero -/
theorem am_gb1 {C : am_C} {d mi pc : Nat} {lv : am_V} {st : List Value} {h : List am_E} {o : Option Value × List am_E × Nat × Nat} {c : ClassFile.Cond} {off : Int} {len : Nat} {x : am_X} {a : Int32} (hat : am_at C mi pc = some (.ifCond c off, len, x)) (bb : Bool) (hc : am_if c a 0 = bb) {pc1 : Nat} (hpc : (bif bb then x.1 else pc + 3) = pc1) (hg : am_G C d mi pc1 lv st h o) : am_G C d mi pc lv (.int a :: st) h o := by
  refine am_g0 (z := (pc1, lv, st, h)) hat rfl ?_ hg
  show am_b1 c x.1 pc lv (.int a :: st) h = _
  unfold am_b1
  simp only [hc, hpc]
/-- a branch on two numbers -/
theorem am_gb2 {C : am_C} {d mi pc : Nat} {lv : am_V} {st : List Value} {h : List am_E} {o : Option Value × List am_E × Nat × Nat} {c : ClassFile.Cond} {off : Int} {len : Nat} {x : am_X} {a y : Int32} (hat : am_at C mi pc = some (.if_icmp c off, len, x)) (bb : Bool) (hc : am_if c a y = bb) {pc1 : Nat} (hpc : (bif bb then x.1 else pc + 3) = pc1) (hg : am_G C d mi pc1 lv st h o) : am_G C d mi pc lv (.int y :: .int a :: st) h o := by
  refine am_g0 (z := (pc1, lv, st, h)) hat rfl ?_ hg
  show am_b2 c x.1 pc lv (.int y :: .int a :: st) h = _
  unfold am_b2
  simp only [hc, hpc]
theorem am_gli {C : am_C} {d mi pc : Nat} {lv : am_V} {st : List Value} {h : List am_E} {o : Option Value × List am_E × Nat × Nat} {len : Nat} {x : am_X} {i v : Int32} {a : Nat} {l : List Int32} (hat : am_at C mi pc = some (.iaload, len, x)) (ha : am_ar h a = some (false, l)) (h0 : ¬ i < 0) (hv : l[i.toNatClampNeg]? = some v) (hg : am_G C d mi (pc + 1) lv (.int v :: st) h o) : am_G C d mi pc lv (.int i :: .ref a :: st) h o := by
  refine am_g0 (z := (pc + 1, lv, .int v :: st, h)) hat rfl ?_ hg
  obtain ⟨k, rfl, -⟩ := am_ar_at ha
  show am_ld false C.2.2.2.1 pc lv (.int i :: .ref (k + 2) :: st) h = _
  simp [am_ld, ha, h0, hv]
theorem am_glc {C : am_C} {d mi pc : Nat} {lv : am_V} {st : List Value} {h : List am_E} {o : Option Value × List am_E × Nat × Nat} {len : Nat} {x : am_X} {i v : Int32} {a : Nat} {l : List Int32} (hat : am_at C mi pc = some (.caload, len, x)) (ha : am_ar h a = some (true, l)) (h0 : ¬ i < 0) (hv : l[i.toNatClampNeg]? = some v) (hg : am_G C d mi (pc + 1) lv (.int v :: st) h o) : am_G C d mi pc lv (.int i :: .ref a :: st) h o := by
  refine am_g0 (z := (pc + 1, lv, .int v :: st, h)) hat rfl ?_ hg
  obtain ⟨k, rfl, -⟩ := am_ar_at ha
  show am_ld true C.2.2.2.1 pc lv (.int i :: .ref (k + 2) :: st) h = _
  simp [am_ld, ha, h0, hv]
theorem am_gsi {C : am_C} {d mi pc : Nat} {lv : am_V} {st : List Value} {h h1 : List am_E} {o : Option Value × List am_E × Nat × Nat} {len : Nat} {x : am_X} {i v : Int32} {a : Nat} {l : List Int32} (hat : am_at C mi pc = some (.iastore, len, x)) (ha : am_ar h a = some (false, l)) (h0 : ¬ i < 0) (hi : i.toNatClampNeg < l.length) (hh : h.set (a - 2) (.inl (false, l.set i.toNatClampNeg v)) = h1) (hg : am_G C d mi (pc + 1) lv st h1 o) : am_G C d mi pc lv (.int v :: .int i :: .ref a :: st) h o := by
  refine am_g0 (z := (pc + 1, lv, st, h1)) hat rfl ?_ hg
  subst hh
  show am_sto false pc lv (.int v :: .int i :: .ref a :: st) h = _
  simp [am_sto, ha, h0, hi]
theorem am_gsc {C : am_C} {d mi pc : Nat} {lv : am_V} {st : List Value} {h h1 : List am_E} {o : Option Value × List am_E × Nat × Nat} {len : Nat} {x : am_X} {i v : Int32} {a : Nat} {l : List Int32} (hat : am_at C mi pc = some (.castore, len, x)) (ha : am_ar h a = some (true, l)) (h0 : ¬ i < 0) (hi : i.toNatClampNeg < l.length) (hh : h.set (a - 2) (.inl (true, l.set i.toNatClampNeg (vp_nar .char v))) = h1) (hg : am_G C d mi (pc + 1) lv st h1 o) : am_G C d mi pc lv (.int v :: .int i :: .ref a :: st) h o := by
  refine am_g0 (z := (pc + 1, lv, st, h1)) hat rfl ?_ hg
  subst hh
  show am_sto true pc lv (.int v :: .int i :: .ref a :: st) h = _
  simp [am_sto, ha, h0, hi]
/-- the script -/
theorem am_gls {C : am_C} {d mi pc : Nat} {lv : am_V} {st : List Value} {h : List am_E} {o : Option Value × List am_E × Nat × Nat} {len : Nat} {x : am_X} {i v : Int32} {l : List Int32} (hat : am_at C mi pc = some (.iaload, len, x)) (ha : C.2.2.2.1 = some l) (h0 : ¬ i < 0) (hv : l[i.toNatClampNeg]? = some v) (hg : am_G C d mi (pc + 1) lv (.int v :: st) h o) : am_G C d mi pc lv (.int i :: .ref 0 :: st) h o := by
  refine am_g0 (z := (pc + 1, lv, .int v :: st, h)) hat rfl ?_ hg
  show am_ld false C.2.2.2.1 pc lv (.int i :: .ref 0 :: st) h = _
  simp [am_ld, ha, h0, hv]
theorem am_gsw {C : am_C} {d mi pc : Nat} {lv : am_V} {st : List Value} {h : List am_E} {o : Option Value × List am_E × Nat × Nat} {len : Nat} {x : am_X} {dflt lo hi : Int} {offs : Array Int} {a : Int32} {tgt : Nat} (hat : am_at C mi pc = some (.tableswitch dflt lo hi offs, len, x)) (ht : am_ts dflt lo hi offs pc a = some tgt) (hg : am_G C d mi tgt lv st h o) : am_G C d mi pc lv (.int a :: st) h o := by
  refine am_g0 (z := (tgt, lv, st, h)) hat rfl ?_ hg
  show am_sw (am_ts dflt lo hi offs pc) lv (.int a :: st) h = _
  simp [am_sw, ht]
/-! Ends of runs that make no cell, by what holds of them. -/
def am_W (C : am_C) (d mi pc : Nat) (lv : am_V) (st : List Value) (h : List am_E) (Q : Option Value → List am_E → Prop) : Prop := ∃ (r : Option Value) (h1 : List am_E), am_G C d mi pc lv st h (r, h1, 0, 0) ∧ Q r h1
section AMW
variable {C : am_C} {d mi pc : Nat} {lv : am_V} {st : List Value} {h : List am_E} {Q : Option Value → List am_E → Prop}
theorem am_wn (k : Nat) {pc1 : Nat} {lv1 : am_V} {st1 : List Value} {h1 : List am_E} (hk : am_ks C d mi k (pc, lv, st, h) = some (pc1, lv1, st1, h1)) (hg : am_W C d mi pc1 lv1 st1 h1 Q) : am_W C d mi pc lv st h Q := by
  obtain ⟨r, h2, hg, hQ⟩ := hg
  exact ⟨r, h2, am_gn k hk hg, hQ⟩
theorem am_w0 {q : Instr × Nat × am_X} {z : am_Z} (hat : am_at C mi pc = some q) (hkd : am_kd q.1 q.2.2 = 0) (hdo : am_do C d q.1 q.2.2 pc lv st h = some z) (hg : am_W C d mi z.1 z.2.1 z.2.2.1 z.2.2.2 Q) : am_W C d mi pc lv st h Q := by
  obtain ⟨r, h2, hg, hQ⟩ := hg
  exact ⟨r, h2, am_g0 hat hkd hdo hg, hQ⟩
theorem am_wb1 {c : ClassFile.Cond} {off : Int} {len : Nat} {x : am_X} {a : Int32} (hat : am_at C mi pc = some (.ifCond c off, len, x)) (bb : Bool) (hc : am_if c a 0 = bb) {pc1 : Nat} (hpc : (bif bb then x.1 else pc + 3) = pc1) (hg : am_W C d mi pc1 lv st h Q) : am_W C d mi pc lv (.int a :: st) h Q := by
  obtain ⟨r, h2, hg, hQ⟩ := hg
  exact ⟨r, h2, am_gb1 hat bb hc hpc hg, hQ⟩
theorem am_wb2 {c : ClassFile.Cond} {off : Int} {len : Nat} {x : am_X} {a y : Int32} (hat : am_at C mi pc = some (.if_icmp c off, len, x)) (bb : Bool) (hc : am_if c a y = bb) {pc1 : Nat} (hpc : (bif bb then x.1 else pc + 3) = pc1) (hg : am_W C d mi pc1 lv st h Q) : am_W C d mi pc lv (.int y :: .int a :: st) h Q := by
  obtain ⟨r, h2, hg, hQ⟩ := hg
  exact ⟨r, h2, am_gb2 hat bb hc hpc hg, hQ⟩
theorem am_wsw {len : Nat} {x : am_X} {dflt lo hi : Int} {offs : Array Int} {a : Int32} {tgt : Nat} (hat : am_at C mi pc = some (.tableswitch dflt lo hi offs, len, x)) (ht : am_ts dflt lo hi offs pc a = some tgt) (hg : am_W C d mi tgt lv st h Q) : am_W C d mi pc lv (.int a :: st) h Q := by
  obtain ⟨r, h2, hg, hQ⟩ := hg
  exact ⟨r, h2, am_gsw hat ht hg, hQ⟩
theorem am_wli {len : Nat} {x : am_X} {i v : Int32} {a : Nat} {l : List Int32} (hat : am_at C mi pc = some (.iaload, len, x)) (ha : am_ar h a = some (false, l)) (h0 : ¬ i < 0) (hv : l[i.toNatClampNeg]? = some v) (hg : am_W C d mi (pc + 1) lv (.int v :: st) h Q) : am_W C d mi pc lv (.int i :: .ref a :: st) h Q := by
  obtain ⟨r, h2, hg, hQ⟩ := hg
  exact ⟨r, h2, am_gli hat ha h0 hv hg, hQ⟩
theorem am_wlc {len : Nat} {x : am_X} {i v : Int32} {a : Nat} {l : List Int32} (hat : am_at C mi pc = some (.caload, len, x)) (ha : am_ar h a = some (true, l)) (h0 : ¬ i < 0) (hv : l[i.toNatClampNeg]? = some v) (hg : am_W C d mi (pc + 1) lv (.int v :: st) h Q) : am_W C d mi pc lv (.int i :: .ref a :: st) h Q := by
  obtain ⟨r, h2, hg, hQ⟩ := hg
  exact ⟨r, h2, am_glc hat ha h0 hv hg, hQ⟩
theorem am_wls {len : Nat} {x : am_X} {i v : Int32} {l : List Int32} (hat : am_at C mi pc = some (.iaload, len, x)) (ha : C.2.2.2.1 = some l) (h0 : ¬ i < 0) (hv : l[i.toNatClampNeg]? = some v) (hg : am_W C d mi (pc + 1) lv (.int v :: st) h Q) : am_W C d mi pc lv (.int i :: .ref 0 :: st) h Q := by
  obtain ⟨r, h2, hg, hQ⟩ := hg
  exact ⟨r, h2, am_gls hat ha h0 hv hg, hQ⟩
theorem am_wsi {h1 : List am_E} {len : Nat} {x : am_X} {i v : Int32} {a : Nat} {l : List Int32} (hat : am_at C mi pc = some (.iastore, len, x)) (ha : am_ar h a = some (false, l)) (h0 : ¬ i < 0) (hi : i.toNatClampNeg < l.length) (hh : h.set (a - 2) (.inl (false, l.set i.toNatClampNeg v)) = h1) (hg : am_W C d mi (pc + 1) lv st h1 Q) : am_W C d mi pc lv (.int v :: .int i :: .ref a :: st) h Q := by
  obtain ⟨r, h2, hg, hQ⟩ := hg
  exact ⟨r, h2, am_gsi hat ha h0 hi hh hg, hQ⟩
theorem am_wsc {h1 : List am_E} {len : Nat} {x : am_X} {i v : Int32} {a : Nat} {l : List Int32} (hat : am_at C mi pc = some (.castore, len, x)) (ha : am_ar h a = some (true, l)) (h0 : ¬ i < 0) (hi : i.toNatClampNeg < l.length) (hh : h.set (a - 2) (.inl (true, l.set i.toNatClampNeg (vp_nar .char v))) = h1) (hg : am_W C d mi (pc + 1) lv st h1 Q) : am_W C d mi pc lv (.int v :: .int i :: .ref a :: st) h Q := by
  obtain ⟨r, h2, hg, hQ⟩ := hg
  exact ⟨r, h2, am_gsc hat ha h0 hi hh hg, hQ⟩
/-- a call: its end goes on with the caller -/
theorem am_wc {q : Instr × Nat × am_X} {z : Nat × List Value × List Value} (hat : am_at C mi pc = some q) (hkd : am_kd q.1 q.2.2 = 1) (hdc : am_dc C q.1 q.2.2 st h = some z) (hg : am_W C d z.1 0 (lv_args 0 z.2.1) [] h (fun r h1 => am_W C (d + 1) mi (pc + 3) lv (r.toList ++ z.2.2) h1 Q)) : am_W C (d + 1) mi pc lv st h Q := by
  obtain ⟨r, h1, hg, r2, h2, hg2, hQ⟩ := hg
  exact ⟨r2, h2, am_g1 (o2 := (r2, h2, 0, 0)) hat hkd hdc hg hg2, hQ⟩
theorem am_wr {q : Instr × Nat × am_X} {r : Option Value} (hat : am_at C mi pc = some q) (hkd : am_kd q.1 q.2.2 = 3) (hdr : am_dr (am_rt C mi) q.1 st = some r) (hQ : Q r h) : am_W C d mi pc lv st h Q := ⟨r, h, am_g3 hat hkd hdr, hQ⟩
theorem am_ww {Q1 : Option Value → List am_E → Prop} (hg : am_W C d mi pc lv st h Q1) (hQ : ∀ r h1, Q1 r h1 → Q r h1) : am_W C d mi pc lv st h Q := by
  obtain ⟨r, h2, hg, hq⟩ := hg
  exact ⟨r, h2, hg, hQ r h2 hq⟩
end AMW
/-- a closed run -/
theorem am_wx {P : List am_M} {cl : List vw_C} {ty : Nat → Nat → FieldType} {wd : List Int64} {ys : Option (List Int32)} {n d mi pc : Nat} {lv : am_V} {st : List Value} {h : List am_E} {r : Option Value} {h1 : List am_E} {Q : Option Value → List am_E → Prop} (hr : am_run (P, cl, ty, none, wd) n d mi pc lv st h = some (r, h1, 0, 0)) (hQ : Q r h1) : am_W (P, cl, ty, ys, wd) d mi pc lv st h Q := ⟨r, h1, am_gx ys hr, hQ⟩
end
section
/-! Locals that a frame has beside those that a run looks at change nothing. -/
def am_le (lv lw : am_V) : Prop := ∀ (i : Nat) (v : Value), am_lk lv i = some v → am_lk lw i = some v
def am_sub (lw : am_V) : am_V → Prop
  | [] => True
  | q :: r => am_lk lw q.1 = some q.2 ∧ am_sub lw r
theorem am_sub_le {lw : am_V} : ∀ {lv : am_V}, am_sub lw lv → am_le lv lw := by
  intro lv h i v hv
  have hm := am_lk_mem hv
  clear hv
  induction lv with
  | nil => cases hm
  | cons q r ih =>
    rcases List.mem_cons.mp hm with rfl | hm
    · exact h.1
    · exact ih h.2 hm
theorem am_lk_keep {p : Nat × Value → Bool} {j : Nat} : ∀ {lv : am_V}, (∀ w, am_lk lv j = some w → p (j, w) = true) → am_lk (lv.filter p) j = am_lk lv j := by
  intro lv
  induction lv with
  | nil => intro _; rfl
  | cons q r ih =>
    obtain ⟨k, w⟩ := q
    intro h
    have e : am_lk ((k, w) :: r) j = (bif k == j then some w else am_lk r j) := rfl
    cases hk : (k == j) with
    | true =>
      have ek := eq_of_beq hk
      subst ek
      have hp := h w (by rw [e, hk]; rfl)
      rw [List.filter_cons_of_pos hp, e]
      show (bif k == k then some w else am_lk (r.filter p) k) = _
      rw [hk]
      rfl
    | false =>
      rw [e, hk, cond_false]
      have h2 : ∀ w2, am_lk r j = some w2 → p (j, w2) = true := fun w2 hw2 => h w2 (by rw [e, hk]; exact hw2)
      cases hp : p (k, w) with
      | true =>
        rw [List.filter_cons_of_pos hp]
        show (bif k == j then some w else am_lk (r.filter p) j) = _
        rw [hk, cond_false]
        exact ih h2
      | false =>
        rw [List.filter_cons_of_neg (by rw [hp]; exact Bool.false_ne_true)]
        exact ih h2
theorem am_lk_drop {p : Nat × Value → Bool} {j : Nat} : ∀ {lv : am_V}, (∀ w, p (j, w) = false) → am_lk (lv.filter p) j = none := by
  intro lv h
  induction lv with
  | nil => rfl
  | cons q r ih =>
    obtain ⟨k, w⟩ := q
    cases hp : p (k, w) with
    | true =>
      rw [List.filter_cons_of_pos hp]
      have hk : (k == j) = false := by
        cases hk : (k == j) with
        | false => rfl
        | true =>
          have ek := eq_of_beq hk
          subst ek
          rw [h w] at hp
          cases hp
      show (bif k == j then some w else am_lk (r.filter p) j) = _
      rw [hk, cond_false]
      exact ih
    | false =>
      rw [List.filter_cons_of_neg (by rw [hp]; exact Bool.false_ne_true)]
      exact ih
theorem am_c2_of {lv : am_V} {j : Nat} {w : Value} (h : am_lk lv j = some w) : am_c2 lv (j + 1) = (w.category == 2) := by
  show (match am_lk lv j with
    | some v => v.category == 2
    | none => false) = _
  rw [h]
theorem am_le_s1 {lv lw : am_V} (h : am_le lv lw) (i : Nat) (v : Value) : am_le (am_s1 lv i v) (am_s1 lw i v) := by
  intro j w hw
  have e : ∀ l : am_V, am_lk (am_s1 l i v) j = (bif i == j then some v else am_lk (l.filter (fun q => !(q.1 == i) && !(q.1 + 1 == i && (q.2.category == 2 || am_c2 l i)))) j) := fun _ => rfl
  rw [e] at hw ⊢
  cases hij : (i == j) with
  | true =>
    rw [hij] at hw
    exact hw
  | false =>
    rw [hij, cond_false] at hw
    rw [cond_false]
    have hji : (j == i) = false := by
      rw [beq_eq_false_iff_ne] at hij ⊢
      exact fun z => hij z.symm
    cases hj1 : (j + 1 == i) with
    | false =>
      rw [am_lk_keep (fun w2 _ => by simp [hji, hj1])] at hw ⊢
      exact h j w hw
    | true =>
      have ei := eq_of_beq hj1
      subst ei
      cases hc : am_c2 lv (j + 1) with
      | true =>
        rw [am_lk_drop (fun w2 => by simp [hc])] at hw
        cases hw
      | false =>
        have hk : am_lk (lv.filter (fun q => !(q.1 == j + 1) && !(q.1 + 1 == j + 1 && (q.2.category == 2 || am_c2 lv (j + 1))))) j = am_lk lv j := am_lk_keep (fun w2 hw2 => by
          have := am_c2_of hw2
          rw [hc] at this
          simp [hc, ← this])
        rw [hk] at hw
        have hc2 : (w.category == 2) = false := by rw [← am_c2_of hw]; exact hc
        have hw2 := h j w hw
        have hc3 : am_c2 lw (j + 1) = false := by rw [am_c2_of hw2]; exact hc2
        rw [am_lk_keep (fun w2 hw3 => by
          cases hw2.symm.trans hw3
          simp [hc3, hc2])]
        exact hw2
theorem am_le_s2 {lv lw : am_V} (h : am_le lv lw) (i : Nat) (v : Value) : am_le (am_s2 lv i v) (am_s2 lw i v) := by
  intro j w hw
  have e : ∀ l : am_V, am_lk (am_s2 l i v) j = (bif i == j then some v else am_lk (l.filter (fun q => !(q.1 == i) && (!(q.1 == i + 1) && !(q.1 + 1 == i && (q.2.category == 2 || am_c2 l i))))) j) := fun _ => rfl
  rw [e] at hw ⊢
  cases hij : (i == j) with
  | true =>
    rw [hij] at hw
    exact hw
  | false =>
    rw [hij, cond_false] at hw
    rw [cond_false]
    have hji : (j == i) = false := by
      rw [beq_eq_false_iff_ne] at hij ⊢
      exact fun z => hij z.symm
    cases hjn : (j == i + 1) with
    | true =>
      rw [am_lk_drop (fun w2 => by simp [hjn])] at hw
      cases hw
    | false =>
      cases hj1 : (j + 1 == i) with
      | false =>
        rw [am_lk_keep (fun w2 _ => by simp [hji, hj1, hjn])] at hw ⊢
        exact h j w hw
      | true =>
        have ei := eq_of_beq hj1
        subst ei
        cases hc : am_c2 lv (j + 1) with
        | true =>
          rw [am_lk_drop (fun w2 => by simp [hc])] at hw
          cases hw
        | false =>
          have hk : am_lk (lv.filter (fun q => !(q.1 == j + 1) && (!(q.1 == j + 1 + 1) && !(q.1 + 1 == j + 1 && (q.2.category == 2 || am_c2 lv (j + 1)))))) j = am_lk lv j := am_lk_keep (fun w2 hw2 => by
            have := am_c2_of hw2
            rw [hc] at this
            simp [hc, ← this, hjn])
          rw [hk] at hw
          have hc2 : (w.category == 2) = false := by rw [← am_c2_of hw]; exact hc
          have hw2 := h j w hw
          have hc3 : am_c2 lw (j + 1) = false := by rw [am_c2_of hw2]; exact hc2
          rw [am_lk_keep (fun w2 hw3 => by
            cases hw2.symm.trans hw3
            simp [hc3, hc2, hjn])]
          exact hw2
set_option maxHeartbeats 4000000 in
theorem am_do_le {C : am_C} {d : Nat} {i : Instr} {x : am_X} {pc : Nat} {lv lw : am_V} {st : List Value} {h : List am_E} {z : am_Z} (hle : am_le lv lw) (hdo : am_do C d i x pc lv st h = some z) : ∃ lw1 : am_V, am_do C d i x pc lw st h = some (z.1, lw1, z.2.2.1, z.2.2.2) ∧ am_le z.2.1 lw1 := by
  cases i
  case iconst n =>
    obtain rfl := Option.some.inj hdo
    exact ⟨lw, rfl, hle⟩
  case bipush n =>
    obtain rfl := Option.some.inj hdo
    exact ⟨lw, rfl, hle⟩
  case sipush n =>
    obtain rfl := Option.some.inj hdo
    exact ⟨lw, rfl, hle⟩
  case lconst n =>
    obtain rfl := Option.some.inj hdo
    exact ⟨lw, rfl, hle⟩
  case ldc2_w n =>
    obtain rfl := Option.some.inj hdo
    exact ⟨lw, rfl, hle⟩
  case goto n =>
    obtain rfl := Option.some.inj hdo
    exact ⟨lw, rfl, hle⟩
  case getstatic n =>
    obtain rfl := Option.some.inj hdo
    exact ⟨lw, rfl, hle⟩
  case iload_n n =>
    obtain ⟨v, hv, rfl⟩ := am_li1_inv hdo
    refine ⟨lw, ?_, hle⟩
    show am_li1 lw n (pc + 1) st h = _
    unfold am_li1
    rw [hle _ _ hv]
  case iload n =>
    obtain ⟨v, hv, rfl⟩ := am_li1_inv hdo
    refine ⟨lw, ?_, hle⟩
    show am_li1 lw n (pc + 2) st h = _
    unfold am_li1
    rw [hle _ _ hv]
  case lload_n n =>
    obtain ⟨v, hv, rfl⟩ := am_ll1_inv hdo
    refine ⟨lw, ?_, hle⟩
    show am_ll1 lw n (pc + 1) st h = _
    unfold am_ll1
    rw [hle _ _ hv]
  case lload n =>
    obtain ⟨v, hv, rfl⟩ := am_ll1_inv hdo
    refine ⟨lw, ?_, hle⟩
    show am_ll1 lw n (pc + 2) st h = _
    unfold am_ll1
    rw [hle _ _ hv]
  case aload_n n =>
    obtain ⟨v, hv, rfl⟩ := am_la1_inv hdo
    refine ⟨lw, ?_, hle⟩
    show am_la1 lw n (pc + 1) st h = _
    unfold am_la1
    rw [hle _ _ hv]
  case aload n =>
    obtain ⟨v, hv, rfl⟩ := am_la1_inv hdo
    refine ⟨lw, ?_, hle⟩
    show am_la1 lw n (pc + 2) st h = _
    unfold am_la1
    rw [hle _ _ hv]
  case istore_n n =>
    obtain ⟨v, r, rfl, rfl⟩ := am_si1_inv hdo
    exact ⟨_, rfl, am_le_s1 hle _ _⟩
  case istore n =>
    obtain ⟨v, r, rfl, rfl⟩ := am_si1_inv hdo
    exact ⟨_, rfl, am_le_s1 hle _ _⟩
  case lstore_n n =>
    obtain ⟨v, r, rfl, rfl⟩ := am_sl1_inv hdo
    exact ⟨_, rfl, am_le_s2 hle _ _⟩
  case lstore n =>
    obtain ⟨v, r, rfl, rfl⟩ := am_sl1_inv hdo
    exact ⟨_, rfl, am_le_s2 hle _ _⟩
  case astore_n n =>
    obtain ⟨v, r, rfl, rfl⟩ := am_sa1_inv hdo
    exact ⟨_, rfl, am_le_s1 hle _ _⟩
  case astore n =>
    obtain ⟨v, r, rfl, rfl⟩ := am_sa1_inv hdo
    exact ⟨_, rfl, am_le_s1 hle _ _⟩
  case iinc i n =>
    obtain ⟨v, hv, rfl⟩ := am_inc_inv hdo
    refine ⟨_, ?_, am_le_s1 hle _ _⟩
    show am_inc lw i n pc st h = _
    unfold am_inc
    rw [hle _ _ hv]
  case iadd =>
    obtain ⟨a, y, v, r, rfl, hf, rfl⟩ := am_ii_inv (f := fun x y => some (x + y)) hdo
    have hf : some (a + y) = some v := hf
    cases hf
    exact ⟨lw, rfl, hle⟩
  case isub =>
    obtain ⟨a, y, v, r, rfl, hf, rfl⟩ := am_ii_inv (f := fun x y => some (x - y)) hdo
    have hf : some (a - y) = some v := hf
    cases hf
    exact ⟨lw, rfl, hle⟩
  case imul =>
    obtain ⟨a, y, v, r, rfl, hf, rfl⟩ := am_ii_inv (f := fun x y => some (x * y)) hdo
    have hf : some (a * y) = some v := hf
    cases hf
    exact ⟨lw, rfl, hle⟩
  case iand =>
    obtain ⟨a, y, v, r, rfl, hf, rfl⟩ := am_ii_inv (f := fun x y => some (x &&& y)) hdo
    have hf : some (a &&& y) = some v := hf
    cases hf
    exact ⟨lw, rfl, hle⟩
  case ior =>
    obtain ⟨a, y, v, r, rfl, hf, rfl⟩ := am_ii_inv (f := fun x y => some (x ||| y)) hdo
    have hf : some (a ||| y) = some v := hf
    cases hf
    exact ⟨lw, rfl, hle⟩
  case idiv =>
    obtain ⟨a, y, v, r, rfl, hf, rfl⟩ := am_ii_inv (f := fun x y => if y = 0 then none else some (x / y)) hdo
    refine ⟨lw, ?_, hle⟩
    show am_ii (fun x y => if y = 0 then none else some (x / y)) pc lw (.int y :: .int a :: r) h = _
    simp only [am_ii, hf]
  case irem =>
    obtain ⟨a, y, v, r, rfl, hf, rfl⟩ := am_ii_inv (f := fun x y => if y = 0 then none else some (x - x / y * y)) hdo
    refine ⟨lw, ?_, hle⟩
    show am_ii (fun x y => if y = 0 then none else some (x - x / y * y)) pc lw (.int y :: .int a :: r) h = _
    simp only [am_ii, hf]
  case ladd =>
    obtain ⟨a, y, r, rfl, rfl⟩ := am_ll_inv hdo
    exact ⟨lw, rfl, hle⟩
  case lmul =>
    obtain ⟨a, y, r, rfl, rfl⟩ := am_ll_inv hdo
    exact ⟨lw, rfl, hle⟩
  case land =>
    obtain ⟨a, y, r, rfl, rfl⟩ := am_ll_inv hdo
    exact ⟨lw, rfl, hle⟩
  case lor =>
    obtain ⟨a, y, r, rfl, rfl⟩ := am_ll_inv hdo
    exact ⟨lw, rfl, hle⟩
  case lcmp =>
    obtain ⟨a, y, r, rfl, rfl⟩ := am_ll_inv hdo
    exact ⟨lw, rfl, hle⟩
  case lshl =>
    obtain ⟨a, y, r, rfl, rfl⟩ := am_li_inv hdo
    exact ⟨lw, rfl, hle⟩
  case lushr =>
    obtain ⟨a, y, r, rfl, rfl⟩ := am_li_inv hdo
    exact ⟨lw, rfl, hle⟩
  case i2l =>
    obtain ⟨a, r, rfl, rfl⟩ := am_ui_inv hdo
    exact ⟨lw, rfl, hle⟩
  case i2c =>
    obtain ⟨a, r, rfl, rfl⟩ := am_ui_inv hdo
    exact ⟨lw, rfl, hle⟩
  case l2i =>
    obtain ⟨a, r, rfl, rfl⟩ := am_ul_inv hdo
    exact ⟨lw, rfl, hle⟩
  case ifCond cn off =>
    obtain ⟨a, r, rfl, rfl⟩ := am_b1_inv hdo
    exact ⟨lw, rfl, hle⟩
  case if_icmp cn off =>
    obtain ⟨a, y, r, rfl, rfl⟩ := am_b2_inv hdo
    exact ⟨lw, rfl, hle⟩
  case tableswitch a1 a2 a3 a4 =>
    obtain ⟨a, tgt, r, rfl, hf, rfl⟩ := am_sw_inv hdo
    refine ⟨lw, ?_, hle⟩
    show am_sw _ lw (.int a :: r) h = _
    simp only [am_sw, hf]
  case lookupswitch a1 a2 =>
    obtain ⟨a, tgt, r, rfl, hf, rfl⟩ := am_sw_inv hdo
    refine ⟨lw, ?_, hle⟩
    show am_sw (fun a => am_to pc (Op.lookupswitch.offset a2.toList a1 a.toInt)) lw (.int a :: r) h = _
    simp only [am_sw, hf]
  case dup =>
    obtain ⟨v, r, rfl, hc, rfl⟩ := am_dup_inv hdo
    refine ⟨lw, ?_, hle⟩
    show am_dup pc lw (v :: r) h = _
    simp [am_dup, hc]
  case pop =>
    obtain ⟨v, r, rfl, hc, rfl⟩ := am_pop_inv hdo
    refine ⟨lw, ?_, hle⟩
    show am_pop pc lw (v :: r) h = _
    simp [am_pop, hc]
  case getfield n =>
    obtain ⟨j, r, fs, v, rfl, hj, hv, rfl⟩ := am_get_inv hdo
    refine ⟨lw, ?_, hle⟩
    show am_get x.1 x.2.1 pc lw (.ref (j + 2) :: r) h = _
    simp [am_get, am_ob, hj, hv]
  case putfield n =>
    obtain ⟨j, r, fs, v, rfl, hj, hk, hf, rfl⟩ := am_put_inv hdo
    refine ⟨lw, ?_, hle⟩
    show am_put (C.2.2.1 x.1 x.2.1) x.1 x.2.1 pc lw (v :: .ref (j + 2) :: r) h = _
    simp [am_put, am_ob, hj, hk, hf]
  case iaload =>
    obtain ⟨a, r, v, h0, rfl, hc⟩ := am_ld_inv hdo
    refine ⟨lw, ?_, hle⟩
    rcases hc with ⟨rfl, ht, hv⟩ | ⟨j, l, rfl, hj, hv⟩
    · show am_ld false C.2.2.2.1 pc lw (.int a :: .ref 0 :: r) h = _
      cases hx : C.2.2.2.1 with
      | none => rw [hx] at hv; simp at hv
      | some l0 =>
        rw [hx] at hv
        have hv : l0[a.toNatClampNeg]? = some v := hv
        first
          | (simp [am_ld, h0, hv]; done)
          | cases ht
    · show am_ld false C.2.2.2.1 pc lw (.int a :: .ref (j + 2) :: r) h = _
      simp [am_ld, am_ar, hj, hv, h0]
  case caload =>
    obtain ⟨a, r, v, h0, rfl, hc⟩ := am_ld_inv hdo
    refine ⟨lw, ?_, hle⟩
    rcases hc with ⟨rfl, ht, hv⟩ | ⟨j, l, rfl, hj, hv⟩
    · show am_ld true C.2.2.2.1 pc lw (.int a :: .ref 0 :: r) h = _
      cases hx : C.2.2.2.1 with
      | none => rw [hx] at hv; simp at hv
      | some l0 =>
        rw [hx] at hv
        have hv : l0[a.toNatClampNeg]? = some v := hv
        first
          | (simp [am_ld, h0, hv]; done)
          | cases ht
    · show am_ld true C.2.2.2.1 pc lw (.int a :: .ref (j + 2) :: r) h = _
      simp [am_ld, am_ar, hj, hv, h0]
  case laload =>
    obtain ⟨a, r, v, h0, rfl, rfl, hv⟩ := am_lld_inv hdo
    refine ⟨lw, ?_, hle⟩
    show am_lld C.2.2.2.2 pc lw (.int a :: .ref 1 :: r) h = _
    simp [am_lld, h0, hv]
  case iastore =>
    obtain ⟨a, v, r, j, l, h0, rfl, hj, hi, rfl⟩ := am_sto_inv hdo
    refine ⟨lw, ?_, hle⟩
    show am_sto false pc lw (.int v :: .int a :: .ref (j + 2) :: r) h = _
    simp [am_sto, am_ar, hj, hi, h0]
  case castore =>
    obtain ⟨a, v, r, j, l, h0, rfl, hj, hi, rfl⟩ := am_sto_inv hdo
    refine ⟨lw, ?_, hle⟩
    show am_sto true pc lw (.int v :: .int a :: .ref (j + 2) :: r) h = _
    simp [am_sto, am_ar, hj, hi, h0]
  case arraylength =>
    obtain ⟨r, v, rfl, hc⟩ := am_len_inv hdo
    refine ⟨lw, ?_, hle⟩
    rcases hc with ⟨rfl, rfl⟩ | ⟨rfl, rfl⟩ | ⟨j, o, rfl, hj, rfl⟩
    · have hdo : am_len C.2.2.2.1 C.2.2.2.2 pc lv (.ref 0 :: r) h = _ := hdo
      show am_len C.2.2.2.1 C.2.2.2.2 pc lw (.ref 0 :: r) h = _
      cases hx : C.2.2.2.1 with
      | none => rw [hx] at hdo; exact absurd hdo (by simp [am_len])
      | some l0 => rfl
    · rfl
    · show am_len C.2.2.2.1 C.2.2.2.2 pc lw (.ref (j + 2) :: r) h = _
      simp [am_len, am_ar, hj]
  case invokespecial n =>
    obtain ⟨a, r, rfl, h1, h8, rfl⟩ := am_oi_inv hdo
    refine ⟨lw, ?_, hle⟩
    show am_oi d pc lw (.ref a :: r) h = _
    simp [am_oi, h1, h8]
  case invokestatic n =>
    have hdo : (bif x.1 == 1000 then am_max d pc lv st h else am_acp d pc lv st h) = some z := hdo
    show ∃ lw1 : am_V, (bif x.1 == 1000 then am_max d pc lw st h else am_acp d pc lw st h) = some (z.1, lw1, z.2.2.1, z.2.2.2) ∧ am_le z.2.1 lw1
    cases hx : (x.1 == 1000) with
    | true =>
      rw [hx, cond_true] at hdo
      obtain ⟨a, y, r, rfl, h1, h8, rfl⟩ := am_max_inv hdo
      exact ⟨lw, by simp [am_max, h1, h8], hle⟩
    | false =>
      rw [hx, cond_false] at hdo
      obtain ⟨n, dp, sp, j, k, o, q, r, rfl, hj, hk, hc, rfl⟩ := am_acp_inv hdo
      refine ⟨lw, ?_, hle⟩
      rw [cond_false]
      have e1 : am_ar h (j + 2) = some o := by simp [am_ar, hj]
      have e2 : am_ar h (k + 2) = some q := by simp [am_ar, hk]
      unfold am_acp
      simp only [e1, e2]
      show (bif am_acc d r o q sp dp n then some (pc + 3, lw, r, h.set (j + 2 - 2) (.inl (true, am_cp q.2 o.2 sp.toNatClampNeg dp.toNatClampNeg n.toNatClampNeg))) else none) = _
      rw [hc]
      rfl
  all_goals exact absurd (show (none : Option am_Z) = some z from hdo) (by simp)
theorem am_run_le {C : am_C} : ∀ (n d mi pc : Nat) (lv lw : am_V) (st : List Value) (h : List am_E) (o : Option Value × List am_E × Nat × Nat), am_le lv lw → am_run C n d mi pc lv st h = some o → am_run C n d mi pc lw st h = some o := by
  intro n
  induction n with
  | zero =>
    intro d mi pc lv lw st h o _ hrun
    cases (show (none : Option (Option Value × List am_E × Nat × Nat)) = some o from hrun)
  | succ n ih =>
    intro d mi pc lv lw st h o hle hrun
    rw [am_run] at hrun ⊢
    cases hat : am_at C mi pc with
    | none => rw [hat] at hrun; cases hrun
    | some q =>
      rw [hat] at hrun
      rcases am_kd_cases q.1 q.2.2 with hkd | hkd | hkd | hkd
      · simp only [hkd] at hrun ⊢
        cases hdo : am_do C d q.1 q.2.2 pc lv st h with
        | none => rw [hdo] at hrun; cases hrun
        | some z =>
          rw [hdo] at hrun
          obtain ⟨lw1, h1, h2⟩ := am_do_le hle hdo
          rw [h1]
          exact ih d mi _ _ _ _ _ o h2 hrun
      · simp only [hkd] at hrun ⊢
        cases hdc : am_dc C q.1 q.2.2 st h with
        | none => rw [hdc] at hrun; cases hrun
        | some z =>
          rw [hdc] at hrun
          cases d with
          | zero => cases hrun
          | succ d1 =>
            simp only at hrun ⊢
            cases hr1 : am_run C n d1 z.1 0 (lv_args 0 z.2.1) [] h with
            | none => rw [hr1] at hrun; cases hrun
            | some o1 =>
              rw [hr1] at hrun
              simp only at hrun ⊢
              cases hr2 : am_run C n (d1 + 1) mi (pc + 3) lv (o1.1.toList ++ z.2.2) o1.2.1 with
              | none => rw [hr2] at hrun; cases hrun
              | some o2 =>
                rw [hr2] at hrun
                rw [ih (d1 + 1) mi _ _ _ _ _ o2 hle hr2]
                exact hrun
      · simp only [hkd] at hrun ⊢
        cases hdn : am_dn C q.1 q.2.2 pc st with
        | none => rw [hdn] at hrun; cases hrun
        | some z =>
          rw [hdn] at hrun
          simp only at hrun ⊢
          cases hr2 : am_run C n d mi z.1 lv (.ref (h.length + 2) :: z.2.1) (h ++ [z.2.2.1]) with
          | none => rw [hr2] at hrun; cases hrun
          | some o2 =>
            rw [hr2] at hrun
            rw [ih d mi _ _ _ _ _ o2 hle hr2]
            exact hrun
      · simp only [hkd] at hrun ⊢
        exact hrun
/-- fewer locals are enough -/
theorem am_wl {C : am_C} {d mi pc : Nat} {lv lw : am_V} {st : List Value} {h : List am_E} {Q : Option Value → List am_E → Prop} (hs : am_sub lw lv) (hg : am_W C d mi pc lv st h Q) : am_W C d mi pc lw st h Q := by
  obtain ⟨r, h1, ⟨n, hn⟩, hQ⟩ := hg
  exact ⟨r, h1, ⟨n, am_run_le n d mi pc lv lw st h _ (am_sub_le hs) hn⟩, hQ⟩
end
section
/-! A program that looks through a method's table: what it passes is right. T: the tables' words; an instruction names its word by the word's place. -/
def am_lb (C : am_C) (T : List Cond) (K : List Nat) (M : am_M) (pc : Nat) (i : Instr) (len : Nat) (x : am_X) : Bool := match i with
  | .iconst n => decide (len = 1 ∧ x.2.2.2 = .int (Int32.ofInt n))
  | .bipush n => decide (len = 2 ∧ x.2.2.2 = .int (Int8.ofInt n).toInt32)
  | .sipush n => decide (len = 3 ∧ x.2.2.2 = .int (Int16.ofInt n).toInt32)
  | .lconst n => decide (len = 1 ∧ x.2.2.2 = .long (Int64.ofNat (n : Nat)))
  | .ldc2_w k => (match x.2.2.2 with
    | .long v => decide (len = 3 ∧ T[x.2.2.1]? = some (Cond.constantLong M.1.cls k v))
    | _ => false)
  | .iload _ => decide (len = 2)
  | .lload _ => decide (len = 2)
  | .aload _ => decide (len = 2)
  | .istore_n k => decide (len = 1 ∧ (k : Nat) < M.2.2.1)
  | .istore k => decide (len = 2 ∧ k < M.2.2.1)
  | .lstore_n k => decide (len = 1 ∧ (k : Nat) + 1 < M.2.2.1)
  | .lstore k => decide (len = 2 ∧ k + 1 < M.2.2.1)
  | .astore_n k => decide (len = 1 ∧ (k : Nat) < M.2.2.1)
  | .astore k => decide (len = 2 ∧ k < M.2.2.1)
  | .iinc k _ => decide (len = 3 ∧ k < M.2.2.1)
  | .ifCond _ o => decide (len = 3 ∧ (pc : Int) + o = (x.1 : Int))
  | .if_icmp _ o => decide (len = 3 ∧ (pc : Int) + o = (x.1 : Int))
  | .goto o => decide (len = 3 ∧ (pc : Int) + o = (x.1 : Int))
  | .tableswitch _ _ _ _ => true
  | .lookupswitch _ ps => (ps.toList.zip (ps.toList.drop 1)).all (fun (a, next) => a.1 < next.1)
  | .getfield k => (match C.2.1[x.1]? with
    | some q => decide (len = 3 ∧ x.2.1 < q.2.2 ∧ T[x.2.2.1]? = some (Cond.fieldLink M.1.cls k q.1 (q.2.1 x.2.1).2.1 (q.2.1 x.2.1).2.2.1))
    | none => false)
  | .putfield k => (match C.2.1[x.1]? with
    | some q => decide ((len = 3 ∧ x.2.1 < q.2.2 ∧ T[x.2.2.1]? = some (Cond.fieldLink M.1.cls k q.1 (q.2.1 x.2.1).2.1 (q.2.1 x.2.1).2.2.1)) ∧ ((q.2.1 x.2.1).2.2.2 = false ∨ (q.2.1 x.2.1).2.2.2 = true ∧ M.1.name = "<init>" ∧ q.1 = M.1.cls))
    | none => false)
  | .getstatic k => decide (len = 3 ∧ T[x.2.2.1]? = some (Cond.fieldLink M.1.cls k "BindingServer$Tokens" "WORDS" "[J"))
  | .newarray _ => decide (len = 2)
  | .new k => (match C.2.1[x.1]? with
    | some q => decide (len = 3 ∧ T[x.2.2.1]? = some (Cond.classLink M.1.cls k q.1))
    | none => false)
  | .invokevirtual k => (match C.1[x.1]?, x.2.2.2 with
    | some N, .ref ci => (match C.2.1[ci]? with
      | some q => decide (len = 3 ∧ x.1 ≠ 0 ∧ K[x.1]? = some 0 ∧ q.1 = N.1.cls ∧ T[x.2.2.1]? = some (Cond.methodLink M.1.cls k N.1) ∧ am_pd N.1 x.2.1)
      | none => false)
    | _, _ => false)
  | .invokespecial k => bif x.1 == 1002 then decide (len = 3 ∧ T[x.2.2.1]? = some (Cond.methodLink M.1.cls k objectInit)) else (match C.1[x.1]? with
    | some N => decide (len = 3 ∧ x.1 ≠ 0 ∧ K[x.1]? = some 2 ∧ T[x.2.2.1]? = some (Cond.methodLink M.1.cls k N.1) ∧ N.1.name = "<init>" ∧ N.2.2.2.1 = none ∧ am_pd N.1 x.2.1)
    | none => false)
  | .invokestatic k => bif x.1 == 1000 then decide (len = 3 ∧ T[x.2.2.1]? = some (Cond.methodLink M.1.cls k Lib.Math.max.name)) else bif x.1 == 1001 then decide (len = 3 ∧ T[x.2.2.1]? = some (Cond.methodLink M.1.cls k arraycopyName)) else (match C.1[x.1]? with
    | some N => decide (len = 3 ∧ x.1 ≠ 0 ∧ K[x.1]? = some 1 ∧ T[x.2.2.1]? = some (Cond.methodLink M.1.cls k N.1) ∧ am_pd N.1 x.2.1)
    | none => false)
  | _ => decide (len = 1)
/-- of a method: static, or an instance's method whose choice is itself -/
def am_ki (G : List Cond) (M : am_M) (kind : Nat) : Prop := match kind with
  | 0 => Cond.instanceMethod M.1 ∈ G ∧ Cond.selects M.1.cls M.1 M.1 ∈ G
  | 1 => Cond.static M.1 ∈ G
  | _ => Cond.instanceMethod M.1 ∈ G
theorem am_lb_ok {C : am_C} {G T : List Cond} {K : List Nat} {M : am_M} {pc : Nat} {i : Instr} {len : Nat} {x : am_X} (hT : ∀ w ∈ T, goodWord w = true → w ∈ G) (hK : ∀ (mi k : Nat) (N : am_M), C.1[mi]? = some N → K[mi]? = some k → mi ≠ 0 → am_ki G N k) (h : am_lb C T K M pc i len x = true) : am_lo C G M pc i len x := by
  have hm : ∀ {j : Nat} {w : Cond}, T[j]? = some w → goodWord w = true → w ∈ G := fun hj hg => hT _ (List.mem_of_getElem? hj) hg
  obtain ⟨x1, x2, x3, x4⟩ := x
  cases i
  case iconst n =>
    have h2 : len = 1 ∧ x4 = .int (Int32.ofInt n) := of_decide_eq_true h
    exact h2
  case bipush n =>
    have h2 : len = 2 ∧ x4 = .int (Int8.ofInt n).toInt32 := of_decide_eq_true h
    exact h2
  case sipush n =>
    have h2 : len = 3 ∧ x4 = .int (Int16.ofInt n).toInt32 := of_decide_eq_true h
    exact h2
  case lconst n =>
    have h2 : len = 1 ∧ x4 = .long (Int64.ofNat (n : Nat)) := of_decide_eq_true h
    exact h2
  case iload n =>
    have h2 : len = 2 := of_decide_eq_true h
    exact h2
  case lload n =>
    have h2 : len = 2 := of_decide_eq_true h
    exact h2
  case aload n =>
    have h2 : len = 2 := of_decide_eq_true h
    exact h2
  case istore_n n =>
    have h2 : len = 1 ∧ (n : Nat) < M.2.2.1 := of_decide_eq_true h
    exact h2
  case istore n =>
    have h2 : len = 2 ∧ n < M.2.2.1 := of_decide_eq_true h
    exact h2
  case lstore_n n =>
    have h2 : len = 1 ∧ (n : Nat) + 1 < M.2.2.1 := of_decide_eq_true h
    exact h2
  case lstore n =>
    have h2 : len = 2 ∧ n + 1 < M.2.2.1 := of_decide_eq_true h
    exact h2
  case astore_n n =>
    have h2 : len = 1 ∧ (n : Nat) < M.2.2.1 := of_decide_eq_true h
    exact h2
  case astore n =>
    have h2 : len = 2 ∧ n < M.2.2.1 := of_decide_eq_true h
    exact h2
  case iinc i n =>
    have h2 : len = 3 ∧ i < M.2.2.1 := of_decide_eq_true h
    exact h2
  case ifCond cn o =>
    have h2 : len = 3 ∧ (pc : Int) + o = (x1 : Int) := of_decide_eq_true h
    exact h2
  case if_icmp cn o =>
    have h2 : len = 3 ∧ (pc : Int) + o = (x1 : Int) := of_decide_eq_true h
    exact h2
  case goto o =>
    have h2 : len = 3 ∧ (pc : Int) + o = (x1 : Int) := of_decide_eq_true h
    exact h2
  case newarray ty =>
    have h2 : len = 2 := of_decide_eq_true h
    exact h2
  case ldc2_w k =>
    cases x4 with
    | long v =>
      have h : _ := of_decide_eq_true h
      exact ⟨h.1, v, rfl, hm h.2 rfl⟩
    | _ => cases h
  case tableswitch a1 a2 a3 a4 => exact trivial
  case lookupswitch a1 a2 => exact h
  case getfield k =>
    cases hq : C.2.1[x1]? with
    | none =>
      have h : (match C.2.1[x1]? with
        | some q => decide (len = 3 ∧ x2 < q.2.2 ∧ T[x3]? = some (Cond.fieldLink M.1.cls k q.1 (q.2.1 x2).2.1 (q.2.1 x2).2.2.1))
        | none => false) = true := h
      rw [hq] at h
      cases h
    | some q =>
      have h : (match C.2.1[x1]? with
        | some q => decide (len = 3 ∧ x2 < q.2.2 ∧ T[x3]? = some (Cond.fieldLink M.1.cls k q.1 (q.2.1 x2).2.1 (q.2.1 x2).2.2.1))
        | none => false) = true := h
      rw [hq] at h
      have h := of_decide_eq_true h
      exact ⟨h.1, q, hq, h.2.1, hm h.2.2 rfl⟩
  case putfield k =>
    have h : (match C.2.1[x1]? with
        | some q => decide ((len = 3 ∧ x2 < q.2.2 ∧ T[x3]? = some (Cond.fieldLink M.1.cls k q.1 (q.2.1 x2).2.1 (q.2.1 x2).2.2.1)) ∧ ((q.2.1 x2).2.2.2 = false ∨ (q.2.1 x2).2.2.2 = true ∧ M.1.name = "<init>" ∧ q.1 = M.1.cls))
        | none => false) = true := h
    cases hq : C.2.1[x1]? with
    | none =>
      rw [hq] at h
      cases h
    | some q =>
      rw [hq] at h
      have h := of_decide_eq_true h
      exact ⟨h.1.1, ⟨q, hq, h.1.2.1, hm h.1.2.2 rfl⟩, q, hq, h.2⟩
  case getstatic k =>
    have h := of_decide_eq_true h
    exact ⟨h.1, hm h.2 rfl⟩
  case new k =>
    have h : (match C.2.1[x1]? with
        | some q => decide (len = 3 ∧ T[x3]? = some (Cond.classLink M.1.cls k q.1))
        | none => false) = true := h
    cases hq : C.2.1[x1]? with
    | none =>
      rw [hq] at h
      cases h
    | some q =>
      rw [hq] at h
      have h := of_decide_eq_true h
      exact ⟨h.1, q, hq, hm h.2 rfl⟩
  case invokevirtual k =>
    cases x4 with
    | ref ci =>
      have h : (match C.1[x1]?, Value.ref ci with
        | some N, .ref ci => (match C.2.1[ci]? with
          | some q => decide (len = 3 ∧ x1 ≠ 0 ∧ K[x1]? = some 0 ∧ q.1 = N.1.cls ∧ T[x3]? = some (Cond.methodLink M.1.cls k N.1) ∧ am_pd N.1 x2)
          | none => false)
        | _, _ => false) = true := h
      cases hN : C.1[x1]? with
      | none =>
        rw [hN] at h
        cases h
      | some N =>
        rw [hN] at h
        simp only at h
        cases hq : C.2.1[ci]? with
        | none =>
          rw [hq] at h
          cases h
        | some q =>
          rw [hq] at h
          have h := of_decide_eq_true h
          have hk := hK x1 0 N hN h.2.2.1 h.2.1
          exact ⟨h.1, h.2.1, N, ci, q, hN, rfl, hq, h.2.2.2.1, hm h.2.2.2.2.1 rfl, hk.1, hk.2, h.2.2.2.2.2⟩
    | _ =>
      have h : (match C.1[x1]?, (_ : Value) with
        | some N, .ref ci => _
        | _, _ => false) = true := h
      exact absurd h (by split <;> simp_all)
  case invokespecial k =>
    have h : (bif x1 == 1002 then decide (len = 3 ∧ T[x3]? = some (Cond.methodLink M.1.cls k objectInit)) else (match C.1[x1]? with
      | some N => decide (len = 3 ∧ x1 ≠ 0 ∧ K[x1]? = some 2 ∧ T[x3]? = some (Cond.methodLink M.1.cls k N.1) ∧ N.1.name = "<init>" ∧ N.2.2.2.1 = none ∧ am_pd N.1 x2)
      | none => false)) = true := h
    cases hx : (x1 == 1002) with
    | true =>
      rw [hx] at h
      have h := of_decide_eq_true h
      exact ⟨h.1, Or.inl ⟨eq_of_beq hx, hm h.2 rfl⟩⟩
    | false =>
      rw [hx, cond_false] at h
      cases hN : C.1[x1]? with
      | none =>
        rw [hN] at h
        cases h
      | some N =>
        rw [hN] at h
        have h := of_decide_eq_true h
        have hk := hK x1 2 N hN h.2.2.1 h.2.1
        exact ⟨h.1, Or.inr ⟨ne_of_beq_false hx, h.2.1, N, hN, hm h.2.2.2.1 rfl, hk, h.2.2.2.2.1, h.2.2.2.2.2.1, h.2.2.2.2.2.2⟩⟩
  case invokestatic k =>
    have h : (bif x1 == 1000 then decide (len = 3 ∧ T[x3]? = some (Cond.methodLink M.1.cls k Lib.Math.max.name)) else bif x1 == 1001 then decide (len = 3 ∧ T[x3]? = some (Cond.methodLink M.1.cls k arraycopyName)) else (match C.1[x1]? with
      | some N => decide (len = 3 ∧ x1 ≠ 0 ∧ K[x1]? = some 1 ∧ T[x3]? = some (Cond.methodLink M.1.cls k N.1) ∧ am_pd N.1 x2)
      | none => false)) = true := h
    cases hx : (x1 == 1000) with
    | true =>
      rw [hx] at h
      have h := of_decide_eq_true h
      exact ⟨h.1, Or.inl ⟨eq_of_beq hx, hm h.2 rfl⟩⟩
    | false =>
      rw [hx, cond_false] at h
      cases hy : (x1 == 1001) with
      | true =>
        rw [hy] at h
        have h := of_decide_eq_true h
        exact ⟨h.1, Or.inr (Or.inl ⟨eq_of_beq hy, hm h.2 rfl⟩)⟩
      | false =>
        rw [hy, cond_false] at h
        cases hN : C.1[x1]? with
        | none =>
          rw [hN] at h
          cases h
        | some N =>
          rw [hN] at h
          have h := of_decide_eq_true h
          have hk := hK x1 1 N hN h.2.2.1 h.2.1
          exact ⟨h.1, Or.inr (Or.inr ⟨ne_of_beq_false hx, ne_of_beq_false hy, h.2.1, N, hN, hm h.2.2.2.1 rfl, hk, h.2.2.2.2⟩)⟩
  all_goals exact (show len = 1 from of_decide_eq_true (p := len = 1) h)
/-- a whole table -/
theorem am_tb_ok {C : am_C} {G T : List Cond} {K : List Nat} {M : am_M} (hT : ∀ w ∈ T, goodWord w = true → w ∈ G) (hK : ∀ (mi k : Nat) (N : am_M), C.1[mi]? = some N → K[mi]? = some k → mi ≠ 0 → am_ki G N k) (hd : ∀ q ∈ M.2.2.2.2, decode M.2.1 q.1 = .ok (q.2.1, q.2.2.1)) (hb : M.2.2.2.2.all (fun q => am_lb C T K M q.1 q.2.1 q.2.2.1 q.2.2.2) = true) : ∀ q ∈ M.2.2.2.2, am_ok C G M q := fun q hq => ⟨hd q hq, am_lb_ok hT hK (List.all_eq_true.mp hb q hq)⟩
end
section
def fd_0 : u_T := fun k => match k with
  | 0 => ("BindingServer", "text", "LBindingServer$Text;", true)
  | 1 => ("BindingServer", "lexed", "LBindingServer$Tokens;", true)
  | 2 => ("BindingServer", "extents", "LBindingServer$Extents;", true)
  | 3 => ("BindingServer", "scopeTable", "LBindingServer$Scopes;", true)
  | 4 => ("BindingServer", "occurrences", "LBindingServer$Occurrences;", true)
  | 5 => ("BindingServer", "parser", "LBindingServer$Parser;", true)
  | 6 => ("BindingServer", "binder", "LBindingServer$Binder;", true)
  | 7 => ("BindingServer", "before", "LBindingServer$Snapshot;", true)
  | _ => ("BindingServer", "stale", "Z", false)
def fd_1 : u_T := fun k => match k with
  | 0 => ("BindingServer$Text", "characters", "[C", true)
  | _ => ("BindingServer$Text", "size", "I", false)
def fd_2 : u_T := fun k => match k with
  | 0 => ("BindingServer$Tokens", "text", "LBindingServer$Text;", true)
  | 1 => ("BindingServer$Tokens", "code", "[I", true)
  | 2 => ("BindingServer$Tokens", "begin", "[I", true)
  | 3 => ("BindingServer$Tokens", "end", "[I", true)
  | 4 => ("BindingServer$Tokens", "indents", "[I", true)
  | 5 => ("BindingServer$Tokens", "count", "I", false)
  | 6 => ("BindingServer$Tokens", "indentCount", "I", false)
  | _ => ("BindingServer$Tokens", "open", "I", false)
def fd_3 : u_T := fun k => match k with
  | 0 => ("BindingServer$Extents", "begin", "[I", true)
  | 1 => ("BindingServer$Extents", "end", "[I", true)
  | _ => ("BindingServer$Extents", "count", "I", false)
def fd_4 : u_T := fun k => match k with
  | 0 => ("BindingServer$Scopes", "sort", "[I", true)
  | 1 => ("BindingServer$Scopes", "parent", "[I", true)
  | 2 => ("BindingServer$Scopes", "target", "[I", true)
  | _ => ("BindingServer$Scopes", "count", "I", false)
def fd_5 : u_T := fun k => match k with
  | 0 => ("BindingServer$Occurrences", "begin", "[I", true)
  | 1 => ("BindingServer$Occurrences", "end", "[I", true)
  | 2 => ("BindingServer$Occurrences", "lies", "[I", true)
  | 3 => ("BindingServer$Occurrences", "belongs", "[I", true)
  | 4 => ("BindingServer$Occurrences", "roles", "[I", true)
  | 5 => ("BindingServer$Occurrences", "spelling", "[I", true)
  | 6 => ("BindingServer$Occurrences", "kind", "[I", true)
  | 7 => ("BindingServer$Occurrences", "of", "[I", true)
  | _ => ("BindingServer$Occurrences", "count", "I", false)
def fd_6 : u_T := fun k => match k with
  | 0 => ("BindingServer$Parser", "tokens", "LBindingServer$Tokens;", true)
  | 1 => ("BindingServer$Parser", "scopes", "LBindingServer$Scopes;", true)
  | 2 => ("BindingServer$Parser", "occurrences", "LBindingServer$Occurrences;", true)
  | 3 => ("BindingServer$Parser", "extents", "LBindingServer$Extents;", true)
  | 4 => ("BindingServer$Parser", "next", "I", false)
  | 5 => ("BindingServer$Parser", "seen", "I", false)
  | 6 => ("BindingServer$Parser", "here", "I", false)
  | 7 => ("BindingServer$Parser", "lastEnd", "I", false)
  | 8 => ("BindingServer$Parser", "scope", "I", false)
  | 9 => ("BindingServer$Parser", "sources", "I", false)
  | 10 => ("BindingServer$Parser", "faultCode", "I", false)
  | 11 => ("BindingServer$Parser", "faultPlace", "I", false)
  | _ => ("BindingServer$Parser", "strayReturn", "I", false)
def fd_7 : u_T := fun k => match k with
  | 0 => ("BindingServer$Binder", "text", "LBindingServer$Text;", true)
  | 1 => ("BindingServer$Binder", "scopes", "LBindingServer$Scopes;", true)
  | 2 => ("BindingServer$Binder", "occurrences", "LBindingServer$Occurrences;", true)
  | 3 => ("BindingServer$Binder", "errorCode", "I", false)
  | _ => ("BindingServer$Binder", "errorPlace", "I", false)
def fd_8 : u_T := fun k => match k with
  | 0 => ("BindingServer$Snapshot", "characters", "[C", true)
  | 1 => ("BindingServer$Snapshot", "answers", "[I", true)
  | 2 => ("BindingServer$Snapshot", "firsts", "[I", true)
  | 3 => ("BindingServer$Snapshot", "size", "I", false)
  | _ => ("BindingServer$Snapshot", "count", "I", false)
def fd_9 : u_T := fun k => match k with
  | 0 => ("BindingServerModel", "size", "I", false)
  | 1 => ("BindingServerModel", "text", "[I", false)
  | 2 => ("BindingServerModel", "kept", "[I", false)
  | 3 => ("BindingServerModel", "spare", "[I", false)
  | 4 => ("BindingServerModel", "stale", "Z", false)
  | 5 => ("BindingServerModel", "tokenCount", "I", false)
  | 6 => ("BindingServerModel", "kind", "[I", false)
  | 7 => ("BindingServerModel", "begin", "[I", false)
  | 8 => ("BindingServerModel", "finish", "[I", false)
  | 9 => ("BindingServerModel", "what", "[I", false)
  | 10 => ("BindingServerModel", "role", "[I", false)
  | 11 => ("BindingServerModel", "row", "[I", false)
  | 12 => ("BindingServerModel", "at", "I", false)
  | 13 => ("BindingServerModel", "depth", "I", false)
  | 14 => ("BindingServerModel", "height", "I", false)
  | 15 => ("BindingServerModel", "goal", "[I", false)
  | 16 => ("BindingServerModel", "extra", "[I", false)
  | 17 => ("BindingServerModel", "last", "I", false)
  | 18 => ("BindingServerModel", "fault", "I", false)
  | 19 => ("BindingServerModel", "faultAt", "I", false)
  | 20 => ("BindingServerModel", "extents", "I", false)
  | 21 => ("BindingServerModel", "low", "[I", false)
  | 22 => ("BindingServerModel", "high", "[I", false)
  | 23 => ("BindingServerModel", "scopeCount", "I", false)
  | 24 => ("BindingServerModel", "sort", "[I", false)
  | 25 => ("BindingServerModel", "first", "[I", false)
  | 26 => ("BindingServerModel", "from", "[I", false)
  | 27 => ("BindingServerModel", "to", "[I", false)
  | 28 => ("BindingServerModel", "sourceFrom", "[I", false)
  | 29 => ("BindingServerModel", "sourceTo", "[I", false)
  | 30 => ("BindingServerModel", "loop", "[I", false)
  | 31 => ("BindingServerModel", "nameCount", "I", false)
  | 32 => ("BindingServerModel", "name", "[I", false)
  | 33 => ("BindingServerModel", "errorAt", "I", false)
  | 34 => ("BindingServerModel", "error", "I", false)
  | 35 => ("BindingServerModel", "answer", "[I", false)
  | _ => ("BindingServerModel", "like", "[I", false)
def am_ty (ci k : Nat) : FieldType := match ci with
  | 0 => (match k with
    | 0 => .object "BindingServer$Text"
    | 1 => .object "BindingServer$Tokens"
    | 2 => .object "BindingServer$Extents"
    | 3 => .object "BindingServer$Scopes"
    | 4 => .object "BindingServer$Occurrences"
    | 5 => .object "BindingServer$Parser"
    | 6 => .object "BindingServer$Binder"
    | 7 => .object "BindingServer$Snapshot"
    | _ => .boolean)
  | 1 => (match k with
    | 0 => .array .char
    | _ => .int)
  | 2 => (match k with
    | 0 => .object "BindingServer$Text"
    | 1 => .array .int
    | 2 => .array .int
    | 3 => .array .int
    | 4 => .array .int
    | 5 => .int
    | 6 => .int
    | _ => .int)
  | 3 => (match k with
    | 0 => .array .int
    | 1 => .array .int
    | _ => .int)
  | 4 => (match k with
    | 0 => .array .int
    | 1 => .array .int
    | 2 => .array .int
    | _ => .int)
  | 5 => (match k with
    | 0 => .array .int
    | 1 => .array .int
    | 2 => .array .int
    | 3 => .array .int
    | 4 => .array .int
    | 5 => .array .int
    | 6 => .array .int
    | 7 => .array .int
    | _ => .int)
  | 6 => (match k with
    | 0 => .object "BindingServer$Tokens"
    | 1 => .object "BindingServer$Scopes"
    | 2 => .object "BindingServer$Occurrences"
    | 3 => .object "BindingServer$Extents"
    | 4 => .int
    | 5 => .int
    | 6 => .int
    | 7 => .int
    | 8 => .int
    | 9 => .int
    | 10 => .int
    | 11 => .int
    | _ => .int)
  | 7 => (match k with
    | 0 => .object "BindingServer$Text"
    | 1 => .object "BindingServer$Scopes"
    | 2 => .object "BindingServer$Occurrences"
    | 3 => .int
    | _ => .int)
  | 8 => (match k with
    | 0 => .array .char
    | 1 => .array .int
    | 2 => .array .int
    | 3 => .int
    | _ => .int)
  | _ => (match k with
    | 0 => .int
    | 1 => .array .int
    | 2 => .array .int
    | 3 => .array .int
    | 4 => .boolean
    | 5 => .int
    | 6 => .array .int
    | 7 => .array .int
    | 8 => .array .int
    | 9 => .array .int
    | 10 => .array .int
    | 11 => .array .int
    | 12 => .int
    | 13 => .int
    | 14 => .int
    | 15 => .array .int
    | 16 => .array .int
    | 17 => .int
    | 18 => .int
    | 19 => .int
    | 20 => .int
    | 21 => .array .int
    | 22 => .array .int
    | 23 => .int
    | 24 => .array .int
    | 25 => .array .int
    | 26 => .array .int
    | 27 => .array .int
    | 28 => .array .int
    | 29 => .array .int
    | 30 => .array .int
    | 31 => .int
    | 32 => .array .int
    | 33 => .int
    | 34 => .int
    | 35 => .array .int
    | _ => .array .int)
def am_cl : List vw_C := [("BindingServer", fd_0, 9), ("BindingServer$Text", fd_1, 2), ("BindingServer$Tokens", fd_2, 8), ("BindingServer$Extents", fd_3, 3), ("BindingServer$Scopes", fd_4, 4), ("BindingServer$Occurrences", fd_5, 9), ("BindingServer$Parser", fd_6, 13), ("BindingServer$Binder", fd_7, 5), ("BindingServer$Snapshot", fd_8, 5), ("BindingServerModel", fd_9, 37)]
def am_wd : List Int64 := [427020088179, 6579558, 6579564, 1701606245, 6713202, 113715422847340, 26982, 115918758703732, 26990, 119165702792289, 7957700478591263084, 1885434739, 125780071117422, 512852847717]
def tb_0 : List am_I := [(0, .new 7, 3, (0, 0, 14, .null)),
  (3, .dup, 1, (0, 0, 0, .null)),
  (4, .invokespecial 9, 3, (108, 0, 16, .null)),
  (7, .astore_n 1, 1, (0, 0, 0, .null)),
  (8, .new 10, 3, (9, 0, 783, .null)),
  (11, .dup, 1, (0, 0, 0, .null)),
  (12, .invokespecial 12, 3, (130, 0, 785, .null)),
  (15, .astore_n 2, 1, (0, 0, 0, .null)),
  (16, .iconst 0, 1, (0, 0, 0, .int 0)),
  (17, .istore_n 3, 1, (0, 0, 0, .null)),
  (18, .iload_n 3, 1, (0, 0, 0, .null)),
  (19, .aload_n 0, 1, (0, 0, 0, .null)),
  (20, .arraylength, 1, (0, 0, 0, .null)),
  (21, .iconst 5, 1, (0, 0, 0, .int 5)),
  (22, .isub, 1, (0, 0, 0, .null)),
  (23, .if_icmp .gt 513, 3, (536, 0, 0, .null)),
  (26, .aload_n 0, 1, (0, 0, 0, .null)),
  (27, .iload_n 3, 1, (0, 0, 0, .null)),
  (28, .iaload, 1, (0, 0, 0, .null)),
  (29, .bipush 15, 2, (0, 0, 0, .int 15)),
  (31, .iand, 1, (0, 0, 0, .null)),
  (32, .tableswitch 498 0 15 #[80, 153, 166, 189, 202, 225, 238, 251, 284, 297, 320, 333, 356, 379, 402, 435], 80, (0, 0, 0, .null)),
  (112, .aload_n 1, 1, (0, 0, 0, .null)),
  (113, .aload_n 0, 1, (0, 0, 0, .null)),
  (114, .iload_n 3, 1, (0, 0, 0, .null)),
  (115, .iconst 1, 1, (0, 0, 0, .int 1)),
  (116, .iadd, 1, (0, 0, 0, .null)),
  (117, .iaload, 1, (0, 0, 0, .null)),
  (118, .aload_n 0, 1, (0, 0, 0, .null)),
  (119, .iload_n 3, 1, (0, 0, 0, .null)),
  (120, .iconst 2, 1, (0, 0, 0, .int 2)),
  (121, .iadd, 1, (0, 0, 0, .null)),
  (122, .iaload, 1, (0, 0, 0, .null)),
  (123, .aload_n 0, 1, (0, 0, 0, .null)),
  (124, .iload_n 3, 1, (0, 0, 0, .null)),
  (125, .iconst 3, 1, (0, 0, 0, .int 3)),
  (126, .iadd, 1, (0, 0, 0, .null)),
  (127, .iaload, 1, (0, 0, 0, .null)),
  (128, .i2l, 1, (0, 0, 0, .null)),
  (129, .bipush 32, 2, (0, 0, 0, .int 32)),
  (131, .lshl, 1, (0, 0, 0, .null)),
  (132, .aload_n 0, 1, (0, 0, 0, .null)),
  (133, .iload_n 3, 1, (0, 0, 0, .null)),
  (134, .iconst 4, 1, (0, 0, 0, .int 4)),
  (135, .iadd, 1, (0, 0, 0, .null)),
  (136, .iaload, 1, (0, 0, 0, .null)),
  (137, .i2l, 1, (0, 0, 0, .null)),
  (138, .ldc2_w 13, 3, (0, 0, 1195, .long 4294967295)),
  (141, .land, 1, (0, 0, 0, .null)),
  (142, .lor, 1, (0, 0, 0, .null)),
  (143, .invokevirtual 15, 3, (109, 3, 284, .ref 0)),
  (146, .aload_n 2, 1, (0, 0, 0, .null)),
  (147, .aload_n 0, 1, (0, 0, 0, .null)),
  (148, .iload_n 3, 1, (0, 0, 0, .null)),
  (149, .iconst 1, 1, (0, 0, 0, .int 1)),
  (150, .iadd, 1, (0, 0, 0, .null)),
  (151, .iaload, 1, (0, 0, 0, .null)),
  (152, .aload_n 0, 1, (0, 0, 0, .null)),
  (153, .iload_n 3, 1, (0, 0, 0, .null)),
  (154, .iconst 2, 1, (0, 0, 0, .int 2)),
  (155, .iadd, 1, (0, 0, 0, .null)),
  (156, .iaload, 1, (0, 0, 0, .null)),
  (157, .aload_n 0, 1, (0, 0, 0, .null)),
  (158, .iload_n 3, 1, (0, 0, 0, .null)),
  (159, .iconst 3, 1, (0, 0, 0, .int 3)),
  (160, .iadd, 1, (0, 0, 0, .null)),
  (161, .iaload, 1, (0, 0, 0, .null)),
  (162, .i2l, 1, (0, 0, 0, .null)),
  (163, .bipush 32, 2, (0, 0, 0, .int 32)),
  (165, .lshl, 1, (0, 0, 0, .null)),
  (166, .aload_n 0, 1, (0, 0, 0, .null)),
  (167, .iload_n 3, 1, (0, 0, 0, .null)),
  (168, .iconst 4, 1, (0, 0, 0, .int 4)),
  (169, .iadd, 1, (0, 0, 0, .null)),
  (170, .iaload, 1, (0, 0, 0, .null)),
  (171, .i2l, 1, (0, 0, 0, .null)),
  (172, .ldc2_w 13, 3, (0, 0, 1195, .long 4294967295)),
  (175, .land, 1, (0, 0, 0, .null)),
  (176, .lor, 1, (0, 0, 0, .null)),
  (177, .invokevirtual 19, 3, (132, 3, 901, .ref 9)),
  (180, .if_icmp .eq 350, 3, (530, 0, 0, .null)),
  (183, .iconst 0, 1, (0, 0, 0, .int 0)),
  (184, .ireturn, 1, (0, 0, 0, .null)),
  (185, .aload_n 1, 1, (0, 0, 0, .null)),
  (186, .invokevirtual 20, 3, (110, 0, 309, .ref 0)),
  (189, .aload_n 2, 1, (0, 0, 0, .null)),
  (190, .invokevirtual 24, 3, (134, 0, 912, .ref 9)),
  (193, .if_icmp .eq 337, 3, (530, 0, 0, .null)),
  (196, .iconst 0, 1, (0, 0, 0, .int 0)),
  (197, .ireturn, 1, (0, 0, 0, .null)),
  (198, .aload_n 1, 1, (0, 0, 0, .null)),
  (199, .aload_n 0, 1, (0, 0, 0, .null)),
  (200, .iload_n 3, 1, (0, 0, 0, .null)),
  (201, .iconst 1, 1, (0, 0, 0, .int 1)),
  (202, .iadd, 1, (0, 0, 0, .null)),
  (203, .iaload, 1, (0, 0, 0, .null)),
  (204, .invokevirtual 25, 3, (111, 1, 313, .ref 0)),
  (207, .aload_n 2, 1, (0, 0, 0, .null)),
  (208, .aload_n 0, 1, (0, 0, 0, .null)),
  (209, .iload_n 3, 1, (0, 0, 0, .null)),
  (210, .iconst 1, 1, (0, 0, 0, .int 1)),
  (211, .iadd, 1, (0, 0, 0, .null)),
  (212, .iaload, 1, (0, 0, 0, .null)),
  (213, .invokevirtual 29, 3, (135, 1, 916, .ref 9)),
  (216, .if_icmp .eq 314, 3, (530, 0, 0, .null)),
  (219, .iconst 0, 1, (0, 0, 0, .int 0)),
  (220, .ireturn, 1, (0, 0, 0, .null)),
  (221, .aload_n 1, 1, (0, 0, 0, .null)),
  (222, .invokevirtual 30, 3, (112, 0, 321, .ref 0)),
  (225, .aload_n 2, 1, (0, 0, 0, .null)),
  (226, .invokevirtual 33, 3, (185, 0, 920, .ref 9)),
  (229, .if_icmp .eq 301, 3, (530, 0, 0, .null)),
  (232, .iconst 0, 1, (0, 0, 0, .int 0)),
  (233, .ireturn, 1, (0, 0, 0, .null)),
  (234, .aload_n 1, 1, (0, 0, 0, .null)),
  (235, .aload_n 0, 1, (0, 0, 0, .null)),
  (236, .iload_n 3, 1, (0, 0, 0, .null)),
  (237, .iconst 1, 1, (0, 0, 0, .int 1)),
  (238, .iadd, 1, (0, 0, 0, .null)),
  (239, .iaload, 1, (0, 0, 0, .null)),
  (240, .invokevirtual 34, 3, (113, 1, 659, .ref 0)),
  (243, .aload_n 2, 1, (0, 0, 0, .null)),
  (244, .aload_n 0, 1, (0, 0, 0, .null)),
  (245, .iload_n 3, 1, (0, 0, 0, .null)),
  (246, .iconst 1, 1, (0, 0, 0, .int 1)),
  (247, .iadd, 1, (0, 0, 0, .null)),
  (248, .iaload, 1, (0, 0, 0, .null)),
  (249, .invokevirtual 37, 3, (186, 1, 1104, .ref 9)),
  (252, .if_icmp .eq 278, 3, (530, 0, 0, .null)),
  (255, .iconst 0, 1, (0, 0, 0, .int 0)),
  (256, .ireturn, 1, (0, 0, 0, .null)),
  (257, .aload_n 1, 1, (0, 0, 0, .null)),
  (258, .invokevirtual 38, 3, (114, 0, 673, .ref 0)),
  (261, .aload_n 2, 1, (0, 0, 0, .null)),
  (262, .invokevirtual 41, 3, (187, 0, 1108, .ref 9)),
  (265, .if_icmp .eq 265, 3, (530, 0, 0, .null)),
  (268, .iconst 0, 1, (0, 0, 0, .int 0)),
  (269, .ireturn, 1, (0, 0, 0, .null)),
  (270, .aload_n 1, 1, (0, 0, 0, .null)),
  (271, .invokevirtual 42, 3, (115, 0, 677, .ref 0)),
  (274, .aload_n 2, 1, (0, 0, 0, .null)),
  (275, .invokevirtual 45, 3, (188, 0, 1112, .ref 9)),
  (278, .if_icmp .eq 252, 3, (530, 0, 0, .null)),
  (281, .iconst 0, 1, (0, 0, 0, .int 0)),
  (282, .ireturn, 1, (0, 0, 0, .null)),
  (283, .aload_n 1, 1, (0, 0, 0, .null)),
  (284, .aload_n 0, 1, (0, 0, 0, .null)),
  (285, .iload_n 3, 1, (0, 0, 0, .null)),
  (286, .iconst 1, 1, (0, 0, 0, .int 1)),
  (287, .iadd, 1, (0, 0, 0, .null)),
  (288, .iaload, 1, (0, 0, 0, .null)),
  (289, .aload_n 0, 1, (0, 0, 0, .null)),
  (290, .iload_n 3, 1, (0, 0, 0, .null)),
  (291, .iconst 2, 1, (0, 0, 0, .int 2)),
  (292, .iadd, 1, (0, 0, 0, .null)),
  (293, .iaload, 1, (0, 0, 0, .null)),
  (294, .invokevirtual 46, 3, (116, 2, 681, .ref 0)),
  (297, .aload_n 2, 1, (0, 0, 0, .null)),
  (298, .aload_n 0, 1, (0, 0, 0, .null)),
  (299, .iload_n 3, 1, (0, 0, 0, .null)),
  (300, .iconst 1, 1, (0, 0, 0, .int 1)),
  (301, .iadd, 1, (0, 0, 0, .null)),
  (302, .iaload, 1, (0, 0, 0, .null)),
  (303, .aload_n 0, 1, (0, 0, 0, .null)),
  (304, .iload_n 3, 1, (0, 0, 0, .null)),
  (305, .iconst 2, 1, (0, 0, 0, .int 2)),
  (306, .iadd, 1, (0, 0, 0, .null)),
  (307, .iaload, 1, (0, 0, 0, .null)),
  (308, .invokevirtual 50, 3, (189, 2, 1116, .ref 9)),
  (311, .if_icmp .eq 219, 3, (530, 0, 0, .null)),
  (314, .iconst 0, 1, (0, 0, 0, .int 0)),
  (315, .ireturn, 1, (0, 0, 0, .null)),
  (316, .aload_n 1, 1, (0, 0, 0, .null)),
  (317, .invokevirtual 51, 3, (117, 0, 697, .ref 0)),
  (320, .aload_n 2, 1, (0, 0, 0, .null)),
  (321, .invokevirtual 54, 3, (191, 0, 1124, .ref 9)),
  (324, .if_icmp .eq 206, 3, (530, 0, 0, .null)),
  (327, .iconst 0, 1, (0, 0, 0, .int 0)),
  (328, .ireturn, 1, (0, 0, 0, .null)),
  (329, .aload_n 1, 1, (0, 0, 0, .null)),
  (330, .aload_n 0, 1, (0, 0, 0, .null)),
  (331, .iload_n 3, 1, (0, 0, 0, .null)),
  (332, .iconst 1, 1, (0, 0, 0, .int 1)),
  (333, .iadd, 1, (0, 0, 0, .null)),
  (334, .iaload, 1, (0, 0, 0, .null)),
  (335, .invokevirtual 55, 3, (118, 1, 701, .ref 0)),
  (338, .aload_n 2, 1, (0, 0, 0, .null)),
  (339, .aload_n 0, 1, (0, 0, 0, .null)),
  (340, .iload_n 3, 1, (0, 0, 0, .null)),
  (341, .iconst 1, 1, (0, 0, 0, .int 1)),
  (342, .iadd, 1, (0, 0, 0, .null)),
  (343, .iaload, 1, (0, 0, 0, .null)),
  (344, .invokevirtual 58, 3, (192, 1, 1128, .ref 9)),
  (347, .if_icmp .eq 183, 3, (530, 0, 0, .null)),
  (350, .iconst 0, 1, (0, 0, 0, .int 0)),
  (351, .ireturn, 1, (0, 0, 0, .null)),
  (352, .aload_n 1, 1, (0, 0, 0, .null)),
  (353, .invokevirtual 59, 3, (119, 0, 707, .ref 0)),
  (356, .aload_n 2, 1, (0, 0, 0, .null)),
  (357, .invokevirtual 62, 3, (193, 0, 1132, .ref 9)),
  (360, .if_icmp .eq 170, 3, (530, 0, 0, .null)),
  (363, .iconst 0, 1, (0, 0, 0, .int 0)),
  (364, .ireturn, 1, (0, 0, 0, .null)),
  (365, .aload_n 1, 1, (0, 0, 0, .null)),
  (366, .aload_n 0, 1, (0, 0, 0, .null)),
  (367, .iload_n 3, 1, (0, 0, 0, .null)),
  (368, .iconst 1, 1, (0, 0, 0, .int 1)),
  (369, .iadd, 1, (0, 0, 0, .null)),
  (370, .iaload, 1, (0, 0, 0, .null)),
  (371, .invokevirtual 63, 3, (120, 1, 711, .ref 0)),
  (374, .aload_n 2, 1, (0, 0, 0, .null)),
  (375, .aload_n 0, 1, (0, 0, 0, .null)),
  (376, .iload_n 3, 1, (0, 0, 0, .null)),
  (377, .iconst 1, 1, (0, 0, 0, .int 1)),
  (378, .iadd, 1, (0, 0, 0, .null)),
  (379, .iaload, 1, (0, 0, 0, .null)),
  (380, .invokevirtual 66, 3, (194, 1, 1136, .ref 9)),
  (383, .if_icmp .eq 147, 3, (530, 0, 0, .null)),
  (386, .iconst 0, 1, (0, 0, 0, .int 0)),
  (387, .ireturn, 1, (0, 0, 0, .null)),
  (388, .aload_n 1, 1, (0, 0, 0, .null)),
  (389, .aload_n 0, 1, (0, 0, 0, .null)),
  (390, .iload_n 3, 1, (0, 0, 0, .null)),
  (391, .iconst 1, 1, (0, 0, 0, .int 1)),
  (392, .iadd, 1, (0, 0, 0, .null)),
  (393, .iaload, 1, (0, 0, 0, .null)),
  (394, .invokevirtual 67, 3, (121, 1, 715, .ref 0)),
  (397, .aload_n 2, 1, (0, 0, 0, .null)),
  (398, .aload_n 0, 1, (0, 0, 0, .null)),
  (399, .iload_n 3, 1, (0, 0, 0, .null)),
  (400, .iconst 1, 1, (0, 0, 0, .int 1)),
  (401, .iadd, 1, (0, 0, 0, .null)),
  (402, .iaload, 1, (0, 0, 0, .null)),
  (403, .invokevirtual 70, 3, (195, 1, 1140, .ref 9)),
  (406, .if_icmp .eq 124, 3, (530, 0, 0, .null)),
  (409, .iconst 0, 1, (0, 0, 0, .int 0)),
  (410, .ireturn, 1, (0, 0, 0, .null)),
  (411, .aload_n 1, 1, (0, 0, 0, .null)),
  (412, .aload_n 0, 1, (0, 0, 0, .null)),
  (413, .iload_n 3, 1, (0, 0, 0, .null)),
  (414, .iconst 1, 1, (0, 0, 0, .int 1)),
  (415, .iadd, 1, (0, 0, 0, .null)),
  (416, .iaload, 1, (0, 0, 0, .null)),
  (417, .invokevirtual 71, 3, (122, 1, 735, .ref 0)),
  (420, .aload_n 2, 1, (0, 0, 0, .null)),
  (421, .aload_n 0, 1, (0, 0, 0, .null)),
  (422, .iload_n 3, 1, (0, 0, 0, .null)),
  (423, .iconst 1, 1, (0, 0, 0, .int 1)),
  (424, .iadd, 1, (0, 0, 0, .null)),
  (425, .iaload, 1, (0, 0, 0, .null)),
  (426, .invokevirtual 74, 3, (196, 1, 1168, .ref 9)),
  (429, .if_icmp .eq 101, 3, (530, 0, 0, .null)),
  (432, .iconst 0, 1, (0, 0, 0, .int 0)),
  (433, .ireturn, 1, (0, 0, 0, .null)),
  (434, .aload_n 1, 1, (0, 0, 0, .null)),
  (435, .aload_n 0, 1, (0, 0, 0, .null)),
  (436, .iload_n 3, 1, (0, 0, 0, .null)),
  (437, .iconst 1, 1, (0, 0, 0, .int 1)),
  (438, .iadd, 1, (0, 0, 0, .null)),
  (439, .iaload, 1, (0, 0, 0, .null)),
  (440, .aload_n 0, 1, (0, 0, 0, .null)),
  (441, .iload_n 3, 1, (0, 0, 0, .null)),
  (442, .iconst 2, 1, (0, 0, 0, .int 2)),
  (443, .iadd, 1, (0, 0, 0, .null)),
  (444, .iaload, 1, (0, 0, 0, .null)),
  (445, .invokevirtual 75, 3, (123, 2, 741, .ref 0)),
  (448, .aload_n 2, 1, (0, 0, 0, .null)),
  (449, .aload_n 0, 1, (0, 0, 0, .null)),
  (450, .iload_n 3, 1, (0, 0, 0, .null)),
  (451, .iconst 1, 1, (0, 0, 0, .int 1)),
  (452, .iadd, 1, (0, 0, 0, .null)),
  (453, .iaload, 1, (0, 0, 0, .null)),
  (454, .aload_n 0, 1, (0, 0, 0, .null)),
  (455, .iload_n 3, 1, (0, 0, 0, .null)),
  (456, .iconst 2, 1, (0, 0, 0, .int 2)),
  (457, .iadd, 1, (0, 0, 0, .null)),
  (458, .iaload, 1, (0, 0, 0, .null)),
  (459, .invokevirtual 78, 3, (197, 2, 1176, .ref 9)),
  (462, .if_icmp .eq 68, 3, (530, 0, 0, .null)),
  (465, .iconst 0, 1, (0, 0, 0, .int 0)),
  (466, .ireturn, 1, (0, 0, 0, .null)),
  (467, .aload_n 1, 1, (0, 0, 0, .null)),
  (468, .aload_n 0, 1, (0, 0, 0, .null)),
  (469, .iload_n 3, 1, (0, 0, 0, .null)),
  (470, .iconst 1, 1, (0, 0, 0, .int 1)),
  (471, .iadd, 1, (0, 0, 0, .null)),
  (472, .iaload, 1, (0, 0, 0, .null)),
  (473, .aload_n 0, 1, (0, 0, 0, .null)),
  (474, .iload_n 3, 1, (0, 0, 0, .null)),
  (475, .iconst 2, 1, (0, 0, 0, .int 2)),
  (476, .iadd, 1, (0, 0, 0, .null)),
  (477, .iaload, 1, (0, 0, 0, .null)),
  (478, .i2l, 1, (0, 0, 0, .null)),
  (479, .bipush 32, 2, (0, 0, 0, .int 32)),
  (481, .lshl, 1, (0, 0, 0, .null)),
  (482, .aload_n 0, 1, (0, 0, 0, .null)),
  (483, .iload_n 3, 1, (0, 0, 0, .null)),
  (484, .iconst 3, 1, (0, 0, 0, .int 3)),
  (485, .iadd, 1, (0, 0, 0, .null)),
  (486, .iaload, 1, (0, 0, 0, .null)),
  (487, .i2l, 1, (0, 0, 0, .null)),
  (488, .ldc2_w 13, 3, (0, 0, 1195, .long 4294967295)),
  (491, .land, 1, (0, 0, 0, .null)),
  (492, .lor, 1, (0, 0, 0, .null)),
  (493, .invokevirtual 79, 3, (124, 2, 745, .ref 0)),
  (496, .aload_n 2, 1, (0, 0, 0, .null)),
  (497, .aload_n 0, 1, (0, 0, 0, .null)),
  (498, .iload_n 3, 1, (0, 0, 0, .null)),
  (499, .iconst 1, 1, (0, 0, 0, .int 1)),
  (500, .iadd, 1, (0, 0, 0, .null)),
  (501, .iaload, 1, (0, 0, 0, .null)),
  (502, .aload_n 0, 1, (0, 0, 0, .null)),
  (503, .iload_n 3, 1, (0, 0, 0, .null)),
  (504, .iconst 2, 1, (0, 0, 0, .int 2)),
  (505, .iadd, 1, (0, 0, 0, .null)),
  (506, .iaload, 1, (0, 0, 0, .null)),
  (507, .i2l, 1, (0, 0, 0, .null)),
  (508, .bipush 32, 2, (0, 0, 0, .int 32)),
  (510, .lshl, 1, (0, 0, 0, .null)),
  (511, .aload_n 0, 1, (0, 0, 0, .null)),
  (512, .iload_n 3, 1, (0, 0, 0, .null)),
  (513, .iconst 3, 1, (0, 0, 0, .int 3)),
  (514, .iadd, 1, (0, 0, 0, .null)),
  (515, .iaload, 1, (0, 0, 0, .null)),
  (516, .i2l, 1, (0, 0, 0, .null)),
  (517, .ldc2_w 13, 3, (0, 0, 1195, .long 4294967295)),
  (520, .land, 1, (0, 0, 0, .null)),
  (521, .lor, 1, (0, 0, 0, .null)),
  (522, .invokevirtual 83, 3, (200, 2, 1180, .ref 9)),
  (525, .if_icmp .eq 5, 3, (530, 0, 0, .null)),
  (528, .iconst 0, 1, (0, 0, 0, .int 0)),
  (529, .ireturn, 1, (0, 0, 0, .null)),
  (530, .iinc 3 5, 3, (0, 0, 0, .null)),
  (533, .goto (-515), 3, (18, 0, 0, .null)),
  (536, .iconst 1, 1, (0, 0, 0, .int 1)),
  (537, .ireturn, 1, (0, 0, 0, .null))]
abbrev md_0 : am_M := (x, code, maxLocals, ret, tb_0)
def tb_1 : List am_I := [(0, .aload_n 0, 1, (0, 0, 0, .null)),
  (1, .invokespecial 3, 3, (1002, 0, 215, .null)),
  (4, .aload_n 0, 1, (0, 0, 0, .null)),
  (5, .aload_n 1, 1, (0, 0, 0, .null)),
  (6, .putfield 9, 3, (7, 0, 216, .null)),
  (9, .aload_n 0, 1, (0, 0, 0, .null)),
  (10, .aload_n 2, 1, (0, 0, 0, .null)),
  (11, .putfield 15, 3, (7, 1, 217, .null)),
  (14, .aload_n 0, 1, (0, 0, 0, .null)),
  (15, .aload_n 3, 1, (0, 0, 0, .null)),
  (16, .putfield 19, 3, (7, 2, 218, .null)),
  (19, .return_, 1, (0, 0, 0, .null))]
abbrev md_1 : am_M := (⟨"BindingServer$Binder", "<init>", "(LBindingServer$Text;LBindingServer$Scopes;LBindingServer$Occurrences;)V"⟩, prog_2_method_1_code, 4, none, tb_1)
def tb_2 : List am_I := [(0, .aload_n 0, 1, (0, 0, 0, .null)),
  (1, .invokevirtual 23, 3, (3, 0, 562, .ref 7)),
  (4, .aload_n 0, 1, (0, 0, 0, .null)),
  (5, .iload_n 1, 1, (0, 0, 0, .null)),
  (6, .invokevirtual 26, 3, (5, 1, 578, .ref 7)),
  (9, .aload_n 0, 1, (0, 0, 0, .null)),
  (10, .getfield 30, 3, (7, 3, 219, .null)),
  (13, .ifCond .ne 31, 3, (44, 0, 0, .null)),
  (16, .iconst 0, 1, (0, 0, 0, .int 0)),
  (17, .istore_n 2, 1, (0, 0, 0, .null)),
  (18, .iload_n 2, 1, (0, 0, 0, .null)),
  (19, .aload_n 0, 1, (0, 0, 0, .null)),
  (20, .getfield 19, 3, (7, 2, 218, .null)),
  (23, .getfield 34, 3, (5, 8, 138, .null)),
  (26, .if_icmp .ge 14, 3, (40, 0, 0, .null)),
  (29, .aload_n 0, 1, (0, 0, 0, .null)),
  (30, .iload_n 2, 1, (0, 0, 0, .null)),
  (31, .invokevirtual 39, 3, (13, 1, 626, .ref 7)),
  (34, .iinc 2 1, 3, (0, 0, 0, .null)),
  (37, .goto (-19), 3, (18, 0, 0, .null)),
  (40, .aload_n 0, 1, (0, 0, 0, .null)),
  (41, .invokevirtual 42, 3, (17, 0, 647, .ref 7)),
  (44, .return_, 1, (0, 0, 0, .null))]
abbrev md_2 : am_M := (⟨"BindingServer$Binder", "bind", "(I)V"⟩, prog_2_method_2_code, 3, none, tb_2)
def tb_3 : List am_I := [(0, .iconst 0, 1, (0, 0, 0, .int 0)),
  (1, .istore_n 1, 1, (0, 0, 0, .null)),
  (2, .iload_n 1, 1, (0, 0, 0, .null)),
  (3, .aload_n 0, 1, (0, 0, 0, .null)),
  (4, .getfield 19, 3, (7, 2, 218, .null)),
  (7, .getfield 34, 3, (5, 8, 138, .null)),
  (10, .if_icmp .ge 54, 3, (64, 0, 0, .null)),
  (13, .aload_n 0, 1, (0, 0, 0, .null)),
  (14, .getfield 19, 3, (7, 2, 218, .null)),
  (17, .getfield 45, 3, (5, 5, 131, .null)),
  (20, .iload_n 1, 1, (0, 0, 0, .null)),
  (21, .iload_n 1, 1, (0, 0, 0, .null)),
  (22, .iastore, 1, (0, 0, 0, .null)),
  (23, .iconst 0, 1, (0, 0, 0, .int 0)),
  (24, .istore_n 2, 1, (0, 0, 0, .null)),
  (25, .iload_n 2, 1, (0, 0, 0, .null)),
  (26, .iload_n 1, 1, (0, 0, 0, .null)),
  (27, .if_icmp .ge 31, 3, (58, 0, 0, .null)),
  (30, .aload_n 0, 1, (0, 0, 0, .null)),
  (31, .iload_n 1, 1, (0, 0, 0, .null)),
  (32, .iload_n 2, 1, (0, 0, 0, .null)),
  (33, .invokevirtual 49, 3, (4, 2, 566, .ref 7)),
  (36, .ifCond .eq 16, 3, (52, 0, 0, .null)),
  (39, .aload_n 0, 1, (0, 0, 0, .null)),
  (40, .getfield 19, 3, (7, 2, 218, .null)),
  (43, .getfield 45, 3, (5, 5, 131, .null)),
  (46, .iload_n 1, 1, (0, 0, 0, .null)),
  (47, .iload_n 2, 1, (0, 0, 0, .null)),
  (48, .iastore, 1, (0, 0, 0, .null)),
  (49, .goto 9, 3, (58, 0, 0, .null)),
  (52, .iinc 2 1, 3, (0, 0, 0, .null)),
  (55, .goto (-30), 3, (25, 0, 0, .null)),
  (58, .iinc 1 1, 3, (0, 0, 0, .null)),
  (61, .goto (-59), 3, (2, 0, 0, .null)),
  (64, .return_, 1, (0, 0, 0, .null))]
abbrev md_3 : am_M := (⟨"BindingServer$Binder", "tellSpellings", "()V"⟩, prog_2_method_3_code, 3, none, tb_3)
def tb_4 : List am_I := [(0, .aload_n 0, 1, (0, 0, 0, .null)),
  (1, .getfield 19, 3, (7, 2, 218, .null)),
  (4, .iload_n 1, 1, (0, 0, 0, .null)),
  (5, .invokevirtual 53, 3, (31, 1, 570, .ref 5)),
  (8, .istore_n 3, 1, (0, 0, 0, .null)),
  (9, .iload_n 3, 1, (0, 0, 0, .null)),
  (10, .aload_n 0, 1, (0, 0, 0, .null)),
  (11, .getfield 19, 3, (7, 2, 218, .null)),
  (14, .iload_n 2, 1, (0, 0, 0, .null)),
  (15, .invokevirtual 53, 3, (31, 1, 570, .ref 5)),
  (18, .if_icmp .ne 36, 3, (54, 0, 0, .null)),
  (21, .aload_n 0, 1, (0, 0, 0, .null)),
  (22, .getfield 9, 3, (7, 0, 216, .null)),
  (25, .aload_n 0, 1, (0, 0, 0, .null)),
  (26, .getfield 19, 3, (7, 2, 218, .null)),
  (29, .getfield 57, 3, (5, 0, 122, .null)),
  (32, .iload_n 1, 1, (0, 0, 0, .null)),
  (33, .iaload, 1, (0, 0, 0, .null)),
  (34, .aload_n 0, 1, (0, 0, 0, .null)),
  (35, .getfield 19, 3, (7, 2, 218, .null)),
  (38, .getfield 57, 3, (5, 0, 122, .null)),
  (41, .iload_n 2, 1, (0, 0, 0, .null)),
  (42, .iaload, 1, (0, 0, 0, .null)),
  (43, .iload_n 3, 1, (0, 0, 0, .null)),
  (44, .invokevirtual 60, 3, (90, 3, 574, .ref 1)),
  (47, .ifCond .eq 7, 3, (54, 0, 0, .null)),
  (50, .iconst 1, 1, (0, 0, 0, .int 1)),
  (51, .goto 4, 3, (55, 0, 0, .null)),
  (54, .iconst 0, 1, (0, 0, 0, .int 0)),
  (55, .ireturn, 1, (0, 0, 0, .null))]
abbrev md_4 : am_M := (⟨"BindingServer$Binder", "sameSpelling", "(II)Z"⟩, prog_2_method_4_code, 4, some .boolean, tb_4)
def tb_5 : List am_I := [(0, .aload_n 0, 1, (0, 0, 0, .null)),
  (1, .iload_n 1, 1, (0, 0, 0, .null)),
  (2, .iconst (-1), 1, (0, 0, 0, .int (-1))),
  (3, .if_icmp .ne 7, 3, (10, 0, 0, .null)),
  (6, .iconst 0, 1, (0, 0, 0, .int 0)),
  (7, .goto 5, 3, (12, 0, 0, .null)),
  (10, .bipush 7, 2, (0, 0, 0, .int 7)),
  (12, .putfield 30, 3, (7, 3, 219, .null)),
  (15, .aload_n 0, 1, (0, 0, 0, .null)),
  (16, .iload_n 1, 1, (0, 0, 0, .null)),
  (17, .putfield 66, 3, (7, 4, 221, .null)),
  (20, .iconst 0, 1, (0, 0, 0, .int 0)),
  (21, .istore_n 2, 1, (0, 0, 0, .null)),
  (22, .iload_n 2, 1, (0, 0, 0, .null)),
  (23, .aload_n 0, 1, (0, 0, 0, .null)),
  (24, .getfield 19, 3, (7, 2, 218, .null)),
  (27, .getfield 34, 3, (5, 8, 138, .null)),
  (30, .if_icmp .ge 57, 3, (87, 0, 0, .null)),
  (33, .iload_n 1, 1, (0, 0, 0, .null)),
  (34, .iconst (-1), 1, (0, 0, 0, .int (-1))),
  (35, .if_icmp .eq 17, 3, (52, 0, 0, .null)),
  (38, .aload_n 0, 1, (0, 0, 0, .null)),
  (39, .getfield 19, 3, (7, 2, 218, .null)),
  (42, .getfield 57, 3, (5, 0, 122, .null)),
  (45, .iload_n 2, 1, (0, 0, 0, .null)),
  (46, .iaload, 1, (0, 0, 0, .null)),
  (47, .iload_n 1, 1, (0, 0, 0, .null)),
  (48, .if_icmp .le 4, 3, (52, 0, 0, .null)),
  (51, .return_, 1, (0, 0, 0, .null)),
  (52, .aload_n 0, 1, (0, 0, 0, .null)),
  (53, .iload_n 2, 1, (0, 0, 0, .null)),
  (54, .invokevirtual 69, 3, (6, 1, 582, .ref 7)),
  (57, .istore_n 3, 1, (0, 0, 0, .null)),
  (58, .iload_n 3, 1, (0, 0, 0, .null)),
  (59, .ifCond .eq 22, 3, (81, 0, 0, .null)),
  (62, .aload_n 0, 1, (0, 0, 0, .null)),
  (63, .iload_n 3, 1, (0, 0, 0, .null)),
  (64, .putfield 30, 3, (7, 3, 219, .null)),
  (67, .aload_n 0, 1, (0, 0, 0, .null)),
  (68, .aload_n 0, 1, (0, 0, 0, .null)),
  (69, .getfield 19, 3, (7, 2, 218, .null)),
  (72, .getfield 57, 3, (5, 0, 122, .null)),
  (75, .iload_n 2, 1, (0, 0, 0, .null)),
  (76, .iaload, 1, (0, 0, 0, .null)),
  (77, .putfield 66, 3, (7, 4, 221, .null)),
  (80, .return_, 1, (0, 0, 0, .null)),
  (81, .iinc 2 1, 3, (0, 0, 0, .null)),
  (84, .goto (-62), 3, (22, 0, 0, .null)),
  (87, .return_, 1, (0, 0, 0, .null))]
abbrev md_5 : am_M := (⟨"BindingServer$Binder", "findError", "(I)V"⟩, prog_2_method_5_code, 4, none, tb_5)
def tb_6 : List am_I := [(0, .aload_n 0, 1, (0, 0, 0, .null)),
  (1, .getfield 19, 3, (7, 2, 218, .null)),
  (4, .iload_n 1, 1, (0, 0, 0, .null)),
  (5, .bipush 16, 2, (0, 0, 0, .int 16)),
  (7, .invokevirtual 72, 3, (32, 2, 586, .ref 5)),
  (10, .ifCond .eq 30, 3, (40, 0, 0, .null)),
  (13, .aload_n 0, 1, (0, 0, 0, .null)),
  (14, .iload_n 1, 1, (0, 0, 0, .null)),
  (15, .invokevirtual 75, 3, (7, 1, 590, .ref 7)),
  (18, .bipush 16, 2, (0, 0, 0, .int 16)),
  (20, .iand, 1, (0, 0, 0, .null)),
  (21, .ifCond .eq 7, 3, (28, 0, 0, .null)),
  (24, .iconst 1, 1, (0, 0, 0, .int 1)),
  (25, .goto 4, 3, (29, 0, 0, .null)),
  (28, .iconst 0, 1, (0, 0, 0, .int 0)),
  (29, .istore_n 2, 1, (0, 0, 0, .null)),
  (30, .iload_n 2, 1, (0, 0, 0, .null)),
  (31, .ifCond .eq 7, 3, (38, 0, 0, .null)),
  (34, .iconst 1, 1, (0, 0, 0, .int 1)),
  (35, .goto 4, 3, (39, 0, 0, .null)),
  (38, .iconst 0, 1, (0, 0, 0, .int 0)),
  (39, .ireturn, 1, (0, 0, 0, .null)),
  (40, .aload_n 0, 1, (0, 0, 0, .null)),
  (41, .getfield 19, 3, (7, 2, 218, .null)),
  (44, .iload_n 1, 1, (0, 0, 0, .null)),
  (45, .bipush 12, 2, (0, 0, 0, .int 12)),
  (47, .invokevirtual 72, 3, (32, 2, 586, .ref 5)),
  (50, .ifCond .eq 9, 3, (59, 0, 0, .null)),
  (53, .aload_n 0, 1, (0, 0, 0, .null)),
  (54, .iload_n 1, 1, (0, 0, 0, .null)),
  (55, .invokevirtual 78, 3, (8, 1, 598, .ref 7)),
  (58, .ireturn, 1, (0, 0, 0, .null)),
  (59, .aload_n 0, 1, (0, 0, 0, .null)),
  (60, .getfield 19, 3, (7, 2, 218, .null)),
  (63, .iload_n 1, 1, (0, 0, 0, .null)),
  (64, .bipush 32, 2, (0, 0, 0, .int 32)),
  (66, .invokevirtual 72, 3, (32, 2, 586, .ref 5)),
  (69, .ifCond .eq 11, 3, (80, 0, 0, .null)),
  (72, .aload_n 0, 1, (0, 0, 0, .null)),
  (73, .iload_n 1, 1, (0, 0, 0, .null)),
  (74, .invokevirtual 81, 3, (9, 1, 614, .ref 7)),
  (77, .goto 4, 3, (81, 0, 0, .null)),
  (80, .iconst 0, 1, (0, 0, 0, .int 0)),
  (81, .ireturn, 1, (0, 0, 0, .null))]
abbrev md_6 : am_M := (⟨"BindingServer$Binder", "errorOf", "(I)I"⟩, prog_2_method_6_code, 3, some .int, tb_6)
def tb_7 : List am_I := [(0, .aload_n 0, 1, (0, 0, 0, .null)),
  (1, .getfield 19, 3, (7, 2, 218, .null)),
  (4, .aload_n 0, 1, (0, 0, 0, .null)),
  (5, .getfield 19, 3, (7, 2, 218, .null)),
  (8, .getfield 84, 3, (5, 3, 128, .null)),
  (11, .iload_n 1, 1, (0, 0, 0, .null)),
  (12, .iaload, 1, (0, 0, 0, .null)),
  (13, .aload_n 0, 1, (0, 0, 0, .null)),
  (14, .getfield 19, 3, (7, 2, 218, .null)),
  (17, .getfield 45, 3, (5, 5, 131, .null)),
  (20, .iload_n 1, 1, (0, 0, 0, .null)),
  (21, .iaload, 1, (0, 0, 0, .null)),
  (22, .iload_n 1, 1, (0, 0, 0, .null)),
  (23, .invokevirtual 87, 3, (34, 3, 594, .ref 5)),
  (26, .ireturn, 1, (0, 0, 0, .null))]
abbrev md_7 : am_M := (⟨"BindingServer$Binder", "earlierRoles", "(I)I"⟩, prog_2_method_7_code, 2, some .int, tb_7)
def tb_8 : List am_I := [(0, .aload_n 0, 1, (0, 0, 0, .null)),
  (1, .iload_n 1, 1, (0, 0, 0, .null)),
  (2, .invokevirtual 75, 3, (7, 1, 590, .ref 7)),
  (5, .istore_n 2, 1, (0, 0, 0, .null)),
  (6, .aload_n 0, 1, (0, 0, 0, .null)),
  (7, .getfield 19, 3, (7, 2, 218, .null)),
  (10, .iload_n 1, 1, (0, 0, 0, .null)),
  (11, .bipush 8, 2, (0, 0, 0, .int 8)),
  (13, .invokevirtual 72, 3, (32, 2, 586, .ref 5)),
  (16, .istore_n 3, 1, (0, 0, 0, .null)),
  (17, .iload_n 3, 1, (0, 0, 0, .null)),
  (18, .ifCond .eq 7, 3, (25, 0, 0, .null)),
  (21, .iconst 4, 1, (0, 0, 0, .int 4)),
  (22, .goto 5, 3, (27, 0, 0, .null)),
  (25, .bipush 8, 2, (0, 0, 0, .int 8)),
  (27, .istore 4, 2, (0, 0, 0, .null)),
  (29, .aload_n 0, 1, (0, 0, 0, .null)),
  (30, .getfield 19, 3, (7, 2, 218, .null)),
  (33, .getfield 84, 3, (5, 3, 128, .null)),
  (36, .iload_n 1, 1, (0, 0, 0, .null)),
  (37, .iaload, 1, (0, 0, 0, .null)),
  (38, .istore 5, 2, (0, 0, 0, .null)),
  (40, .iload_n 2, 1, (0, 0, 0, .null)),
  (41, .bipush 16, 2, (0, 0, 0, .int 16)),
  (43, .iand, 1, (0, 0, 0, .null)),
  (44, .ifCond .eq 5, 3, (49, 0, 0, .null)),
  (47, .iconst 2, 1, (0, 0, 0, .int 2)),
  (48, .ireturn, 1, (0, 0, 0, .null)),
  (49, .iload_n 2, 1, (0, 0, 0, .null)),
  (50, .iconst 3, 1, (0, 0, 0, .int 3)),
  (51, .iand, 1, (0, 0, 0, .null)),
  (52, .ifCond .eq 5, 3, (57, 0, 0, .null)),
  (55, .iconst 3, 1, (0, 0, 0, .int 3)),
  (56, .ireturn, 1, (0, 0, 0, .null)),
  (57, .iload_n 3, 1, (0, 0, 0, .null)),
  (58, .ifCond .eq 10, 3, (68, 0, 0, .null)),
  (61, .iload 5, 2, (0, 0, 0, .null)),
  (63, .ifCond .ne 5, 3, (68, 0, 0, .null)),
  (66, .iconst 4, 1, (0, 0, 0, .int 4)),
  (67, .ireturn, 1, (0, 0, 0, .null)),
  (68, .iload_n 2, 1, (0, 0, 0, .null)),
  (69, .iload 4, 2, (0, 0, 0, .null)),
  (71, .iand, 1, (0, 0, 0, .null)),
  (72, .ifCond .eq 5, 3, (77, 0, 0, .null)),
  (75, .iconst 5, 1, (0, 0, 0, .int 5)),
  (76, .ireturn, 1, (0, 0, 0, .null)),
  (77, .iload_n 3, 1, (0, 0, 0, .null)),
  (78, .ifCond .eq 26, 3, (104, 0, 0, .null)),
  (81, .aload_n 0, 1, (0, 0, 0, .null)),
  (82, .iload 5, 2, (0, 0, 0, .null)),
  (84, .aload_n 0, 1, (0, 0, 0, .null)),
  (85, .getfield 19, 3, (7, 2, 218, .null)),
  (88, .getfield 45, 3, (5, 5, 131, .null)),
  (91, .iload_n 1, 1, (0, 0, 0, .null)),
  (92, .iaload, 1, (0, 0, 0, .null)),
  (93, .invokevirtual 91, 3, (11, 2, 602, .ref 7)),
  (96, .iconst (-1), 1, (0, 0, 0, .int (-1))),
  (97, .if_icmp .ne 7, 3, (104, 0, 0, .null)),
  (100, .iconst 1, 1, (0, 0, 0, .int 1)),
  (101, .goto 4, 3, (105, 0, 0, .null)),
  (104, .iconst 0, 1, (0, 0, 0, .int 0)),
  (105, .istore 6, 2, (0, 0, 0, .null)),
  (107, .iload 6, 2, (0, 0, 0, .null)),
  (109, .ifCond .eq 8, 3, (117, 0, 0, .null)),
  (112, .bipush 6, 2, (0, 0, 0, .int 6)),
  (114, .goto 4, 3, (118, 0, 0, .null)),
  (117, .iconst 0, 1, (0, 0, 0, .int 0)),
  (118, .ireturn, 1, (0, 0, 0, .null))]
abbrev md_8 : am_M := (⟨"BindingServer$Binder", "errorOfDeclared", "(I)I"⟩, prog_2_method_8_code, 7, some .int, tb_8)
def tb_9 : List am_I := [(0, .aload_n 0, 1, (0, 0, 0, .null)),
  (1, .getfield 15, 3, (7, 1, 217, .null)),
  (4, .aload_n 0, 1, (0, 0, 0, .null)),
  (5, .getfield 19, 3, (7, 2, 218, .null)),
  (8, .getfield 95, 3, (5, 2, 126, .null)),
  (11, .iload_n 1, 1, (0, 0, 0, .null)),
  (12, .iaload, 1, (0, 0, 0, .null)),
  (13, .invokevirtual 98, 3, (71, 1, 610, .ref 4)),
  (16, .iconst 4, 1, (0, 0, 0, .int 4)),
  (17, .if_icmp .ne 7, 3, (24, 0, 0, .null)),
  (20, .iconst 1, 1, (0, 0, 0, .int 1)),
  (21, .goto 4, 3, (25, 0, 0, .null)),
  (24, .iconst 0, 1, (0, 0, 0, .int 0)),
  (25, .istore_n 2, 1, (0, 0, 0, .null)),
  (26, .iload_n 2, 1, (0, 0, 0, .null)),
  (27, .ifCond .eq 26, 3, (53, 0, 0, .null)),
  (30, .aload_n 0, 1, (0, 0, 0, .null)),
  (31, .getfield 15, 3, (7, 1, 217, .null)),
  (34, .aload_n 0, 1, (0, 0, 0, .null)),
  (35, .getfield 19, 3, (7, 2, 218, .null)),
  (38, .getfield 84, 3, (5, 3, 128, .null)),
  (41, .iload_n 1, 1, (0, 0, 0, .null)),
  (42, .iaload, 1, (0, 0, 0, .null)),
  (43, .invokevirtual 98, 3, (71, 1, 610, .ref 4)),
  (46, .iconst 2, 1, (0, 0, 0, .int 2)),
  (47, .if_icmp .ne 6, 3, (53, 0, 0, .null)),
  (50, .bipush 8, 2, (0, 0, 0, .int 8)),
  (52, .ireturn, 1, (0, 0, 0, .null)),
  (53, .aload_n 0, 1, (0, 0, 0, .null)),
  (54, .iload_n 1, 1, (0, 0, 0, .null)),
  (55, .invokevirtual 103, 3, (10, 1, 618, .ref 7)),
  (58, .ifCond .eq 6, 3, (64, 0, 0, .null)),
  (61, .bipush 9, 2, (0, 0, 0, .int 9)),
  (63, .ireturn, 1, (0, 0, 0, .null)),
  (64, .aload_n 0, 1, (0, 0, 0, .null)),
  (65, .getfield 19, 3, (7, 2, 218, .null)),
  (68, .iload_n 1, 1, (0, 0, 0, .null)),
  (69, .bipush 64, 2, (0, 0, 0, .int 64)),
  (71, .invokevirtual 72, 3, (32, 2, 586, .ref 5)),
  (74, .ifCond .eq 8, 3, (82, 0, 0, .null)),
  (77, .bipush 10, 2, (0, 0, 0, .int 10)),
  (79, .goto 4, 3, (83, 0, 0, .null)),
  (82, .iconst 0, 1, (0, 0, 0, .int 0)),
  (83, .ireturn, 1, (0, 0, 0, .null))]
abbrev md_9 : am_M := (⟨"BindingServer$Binder", "errorOfWalrus", "(I)I"⟩, prog_2_method_9_code, 3, some .int, tb_9)
def tb_10 : List am_I := [(0, .aload_n 0, 1, (0, 0, 0, .null)),
  (1, .getfield 19, 3, (7, 2, 218, .null)),
  (4, .getfield 95, 3, (5, 2, 126, .null)),
  (7, .iload_n 1, 1, (0, 0, 0, .null)),
  (8, .iaload, 1, (0, 0, 0, .null)),
  (9, .istore_n 2, 1, (0, 0, 0, .null)),
  (10, .iconst 0, 1, (0, 0, 0, .int 0)),
  (11, .istore_n 3, 1, (0, 0, 0, .null)),
  (12, .iload_n 3, 1, (0, 0, 0, .null)),
  (13, .aload_n 0, 1, (0, 0, 0, .null)),
  (14, .getfield 15, 3, (7, 1, 217, .null)),
  (17, .getfield 107, 3, (4, 3, 105, .null)),
  (20, .if_icmp .ge 71, 3, (91, 0, 0, .null)),
  (23, .aload_n 0, 1, (0, 0, 0, .null)),
  (24, .getfield 15, 3, (7, 1, 217, .null)),
  (27, .iload_n 2, 1, (0, 0, 0, .null)),
  (28, .invokevirtual 98, 3, (71, 1, 610, .ref 4)),
  (31, .iconst 4, 1, (0, 0, 0, .int 4)),
  (32, .if_icmp .eq 5, 3, (37, 0, 0, .null)),
  (35, .iconst 0, 1, (0, 0, 0, .int 0)),
  (36, .ireturn, 1, (0, 0, 0, .null)),
  (37, .aload_n 0, 1, (0, 0, 0, .null)),
  (38, .getfield 15, 3, (7, 1, 217, .null)),
  (41, .iload_n 2, 1, (0, 0, 0, .null)),
  (42, .invokevirtual 108, 3, (73, 1, 622, .ref 4)),
  (45, .istore 4, 2, (0, 0, 0, .null)),
  (47, .iload 4, 2, (0, 0, 0, .null)),
  (49, .ifCond .lt 27, 3, (76, 0, 0, .null)),
  (52, .aload_n 0, 1, (0, 0, 0, .null)),
  (53, .getfield 19, 3, (7, 2, 218, .null)),
  (56, .getfield 45, 3, (5, 5, 131, .null)),
  (59, .iload 4, 2, (0, 0, 0, .null)),
  (61, .iaload, 1, (0, 0, 0, .null)),
  (62, .aload_n 0, 1, (0, 0, 0, .null)),
  (63, .getfield 19, 3, (7, 2, 218, .null)),
  (66, .getfield 45, 3, (5, 5, 131, .null)),
  (69, .iload_n 1, 1, (0, 0, 0, .null)),
  (70, .iaload, 1, (0, 0, 0, .null)),
  (71, .if_icmp .ne 5, 3, (76, 0, 0, .null)),
  (74, .iconst 1, 1, (0, 0, 0, .int 1)),
  (75, .ireturn, 1, (0, 0, 0, .null)),
  (76, .aload_n 0, 1, (0, 0, 0, .null)),
  (77, .getfield 15, 3, (7, 1, 217, .null)),
  (80, .iload_n 2, 1, (0, 0, 0, .null)),
  (81, .invokevirtual 111, 3, (72, 1, 606, .ref 4)),
  (84, .istore_n 2, 1, (0, 0, 0, .null)),
  (85, .iinc 3 1, 3, (0, 0, 0, .null)),
  (88, .goto (-76), 3, (12, 0, 0, .null)),
  (91, .iconst 0, 1, (0, 0, 0, .int 0)),
  (92, .ireturn, 1, (0, 0, 0, .null))]
abbrev md_10 : am_M := (⟨"BindingServer$Binder", "bindsTarget", "(I)Z"⟩, prog_2_method_10_code, 5, some .boolean, tb_10)
def tb_11 : List am_I := [(0, .aload_n 0, 1, (0, 0, 0, .null)),
  (1, .getfield 15, 3, (7, 1, 217, .null)),
  (4, .iload_n 1, 1, (0, 0, 0, .null)),
  (5, .invokevirtual 111, 3, (72, 1, 606, .ref 4)),
  (8, .istore_n 3, 1, (0, 0, 0, .null)),
  (9, .iconst 0, 1, (0, 0, 0, .int 0)),
  (10, .istore 4, 2, (0, 0, 0, .null)),
  (12, .iload 4, 2, (0, 0, 0, .null)),
  (14, .aload_n 0, 1, (0, 0, 0, .null)),
  (15, .getfield 15, 3, (7, 1, 217, .null)),
  (18, .getfield 107, 3, (4, 3, 105, .null)),
  (21, .if_icmp .ge 71, 3, (92, 0, 0, .null)),
  (24, .iload_n 3, 1, (0, 0, 0, .null)),
  (25, .ifCond .eq 67, 3, (92, 0, 0, .null)),
  (28, .aload_n 0, 1, (0, 0, 0, .null)),
  (29, .getfield 19, 3, (7, 2, 218, .null)),
  (32, .iload_n 3, 1, (0, 0, 0, .null)),
  (33, .iload_n 2, 1, (0, 0, 0, .null)),
  (34, .aload_n 0, 1, (0, 0, 0, .null)),
  (35, .getfield 19, 3, (7, 2, 218, .null)),
  (38, .getfield 34, 3, (5, 8, 138, .null)),
  (41, .invokevirtual 87, 3, (34, 3, 594, .ref 5)),
  (44, .istore 5, 2, (0, 0, 0, .null)),
  (46, .aload_n 0, 1, (0, 0, 0, .null)),
  (47, .getfield 15, 3, (7, 1, 217, .null)),
  (50, .iload_n 3, 1, (0, 0, 0, .null)),
  (51, .invokevirtual 98, 3, (71, 1, 610, .ref 4)),
  (54, .iconst 2, 1, (0, 0, 0, .int 2)),
  (55, .if_icmp .eq 22, 3, (77, 0, 0, .null)),
  (58, .iload 5, 2, (0, 0, 0, .null)),
  (60, .iconst 4, 1, (0, 0, 0, .int 4)),
  (61, .iand, 1, (0, 0, 0, .null)),
  (62, .ifCond .eq 5, 3, (67, 0, 0, .null)),
  (65, .iconst (-1), 1, (0, 0, 0, .int (-1))),
  (66, .ireturn, 1, (0, 0, 0, .null)),
  (67, .iload 5, 2, (0, 0, 0, .null)),
  (69, .invokestatic 114, 3, (12, 1, 611, .null)),
  (72, .ifCond .eq 5, 3, (77, 0, 0, .null)),
  (75, .iload_n 3, 1, (0, 0, 0, .null)),
  (76, .ireturn, 1, (0, 0, 0, .null)),
  (77, .aload_n 0, 1, (0, 0, 0, .null)),
  (78, .getfield 15, 3, (7, 1, 217, .null)),
  (81, .iload_n 3, 1, (0, 0, 0, .null)),
  (82, .invokevirtual 111, 3, (72, 1, 606, .ref 4)),
  (85, .istore_n 3, 1, (0, 0, 0, .null)),
  (86, .iinc 4 1, 3, (0, 0, 0, .null)),
  (89, .goto (-77), 3, (12, 0, 0, .null)),
  (92, .iconst (-1), 1, (0, 0, 0, .int (-1))),
  (93, .ireturn, 1, (0, 0, 0, .null))]
abbrev md_11 : am_M := (⟨"BindingServer$Binder", "search", "(II)I"⟩, prog_2_method_11_code, 6, some .int, tb_11)
def tb_12 : List am_I := [(0, .iload_n 0, 1, (0, 0, 0, .null)),
  (1, .iconst 2, 1, (0, 0, 0, .int 2)),
  (2, .iand, 1, (0, 0, 0, .null)),
  (3, .ifCond .eq 14, 3, (17, 0, 0, .null)),
  (6, .iload_n 0, 1, (0, 0, 0, .null)),
  (7, .bipush 12, 2, (0, 0, 0, .int 12)),
  (9, .iand, 1, (0, 0, 0, .null)),
  (10, .ifCond .ne 7, 3, (17, 0, 0, .null)),
  (13, .iconst 1, 1, (0, 0, 0, .int 1)),
  (14, .goto 4, 3, (18, 0, 0, .null)),
  (17, .iconst 0, 1, (0, 0, 0, .int 0)),
  (18, .ireturn, 1, (0, 0, 0, .null))]
abbrev md_12 : am_M := (⟨"BindingServer$Binder", "bindsUndeclared", "(I)Z"⟩, prog_2_method_12_code, 1, some .boolean, tb_12)
def tb_13 : List am_I := [(0, .aload_n 0, 1, (0, 0, 0, .null)),
  (1, .getfield 19, 3, (7, 2, 218, .null)),
  (4, .getfield 84, 3, (5, 3, 128, .null)),
  (7, .iload_n 1, 1, (0, 0, 0, .null)),
  (8, .iaload, 1, (0, 0, 0, .null)),
  (9, .istore_n 2, 1, (0, 0, 0, .null)),
  (10, .aload_n 0, 1, (0, 0, 0, .null)),
  (11, .getfield 19, 3, (7, 2, 218, .null)),
  (14, .getfield 45, 3, (5, 5, 131, .null)),
  (17, .iload_n 1, 1, (0, 0, 0, .null)),
  (18, .iaload, 1, (0, 0, 0, .null)),
  (19, .istore_n 3, 1, (0, 0, 0, .null)),
  (20, .aload_n 0, 1, (0, 0, 0, .null)),
  (21, .getfield 19, 3, (7, 2, 218, .null)),
  (24, .iload_n 2, 1, (0, 0, 0, .null)),
  (25, .iload_n 3, 1, (0, 0, 0, .null)),
  (26, .aload_n 0, 1, (0, 0, 0, .null)),
  (27, .getfield 19, 3, (7, 2, 218, .null)),
  (30, .getfield 34, 3, (5, 8, 138, .null)),
  (33, .invokevirtual 87, 3, (34, 3, 594, .ref 5)),
  (36, .istore 4, 2, (0, 0, 0, .null)),
  (38, .iload 4, 2, (0, 0, 0, .null)),
  (40, .iconst 4, 1, (0, 0, 0, .int 4)),
  (41, .iand, 1, (0, 0, 0, .null)),
  (42, .ifCond .eq 13, 3, (55, 0, 0, .null)),
  (45, .aload_n 0, 1, (0, 0, 0, .null)),
  (46, .iload_n 1, 1, (0, 0, 0, .null)),
  (47, .iconst 4, 1, (0, 0, 0, .int 4)),
  (48, .iconst 0, 1, (0, 0, 0, .int 0)),
  (49, .invokevirtual 117, 3, (14, 3, 630, .ref 7)),
  (52, .goto 70, 3, (122, 0, 0, .null)),
  (55, .iload_n 2, 1, (0, 0, 0, .null)),
  (56, .ifCond .eq 21, 3, (77, 0, 0, .null)),
  (59, .iload 4, 2, (0, 0, 0, .null)),
  (61, .invokestatic 114, 3, (12, 1, 611, .null)),
  (64, .ifCond .eq 13, 3, (77, 0, 0, .null)),
  (67, .aload_n 0, 1, (0, 0, 0, .null)),
  (68, .iload_n 1, 1, (0, 0, 0, .null)),
  (69, .iconst 1, 1, (0, 0, 0, .int 1)),
  (70, .iload_n 2, 1, (0, 0, 0, .null)),
  (71, .invokevirtual 117, 3, (14, 3, 630, .ref 7)),
  (74, .goto 48, 3, (122, 0, 0, .null)),
  (77, .aload_n 0, 1, (0, 0, 0, .null)),
  (78, .iload_n 2, 1, (0, 0, 0, .null)),
  (79, .iload_n 3, 1, (0, 0, 0, .null)),
  (80, .invokevirtual 91, 3, (11, 2, 602, .ref 7)),
  (83, .istore 5, 2, (0, 0, 0, .null)),
  (85, .iload 5, 2, (0, 0, 0, .null)),
  (87, .iconst (-1), 1, (0, 0, 0, .int (-1))),
  (88, .if_icmp .eq 14, 3, (102, 0, 0, .null)),
  (91, .aload_n 0, 1, (0, 0, 0, .null)),
  (92, .iload_n 1, 1, (0, 0, 0, .null)),
  (93, .iconst 3, 1, (0, 0, 0, .int 3)),
  (94, .iload 5, 2, (0, 0, 0, .null)),
  (96, .invokevirtual 117, 3, (14, 3, 630, .ref 7)),
  (99, .goto 23, 3, (122, 0, 0, .null)),
  (102, .aload_n 0, 1, (0, 0, 0, .null)),
  (103, .iload_n 1, 1, (0, 0, 0, .null)),
  (104, .aload_n 0, 1, (0, 0, 0, .null)),
  (105, .iload_n 3, 1, (0, 0, 0, .null)),
  (106, .invokevirtual 121, 3, (15, 1, 634, .ref 7)),
  (109, .ifCond .eq 7, 3, (116, 0, 0, .null)),
  (112, .iconst 5, 1, (0, 0, 0, .int 5)),
  (113, .goto 5, 3, (118, 0, 0, .null)),
  (116, .bipush 6, 2, (0, 0, 0, .int 6)),
  (118, .iconst 0, 1, (0, 0, 0, .int 0)),
  (119, .invokevirtual 117, 3, (14, 3, 630, .ref 7)),
  (122, .return_, 1, (0, 0, 0, .null))]
abbrev md_13 : am_M := (⟨"BindingServer$Binder", "settle", "(I)V"⟩, prog_2_method_13_code, 6, none, tb_13)
def tb_14 : List am_I := [(0, .aload_n 0, 1, (0, 0, 0, .null)),
  (1, .getfield 19, 3, (7, 2, 218, .null)),
  (4, .getfield 124, 3, (5, 6, 133, .null)),
  (7, .iload_n 1, 1, (0, 0, 0, .null)),
  (8, .iload_n 2, 1, (0, 0, 0, .null)),
  (9, .iastore, 1, (0, 0, 0, .null)),
  (10, .aload_n 0, 1, (0, 0, 0, .null)),
  (11, .getfield 19, 3, (7, 2, 218, .null)),
  (14, .getfield 127, 3, (5, 7, 136, .null)),
  (17, .iload_n 1, 1, (0, 0, 0, .null)),
  (18, .iload_n 3, 1, (0, 0, 0, .null)),
  (19, .iastore, 1, (0, 0, 0, .null)),
  (20, .return_, 1, (0, 0, 0, .null))]
abbrev md_14 : am_M := (⟨"BindingServer$Binder", "stand", "(III)V"⟩, prog_2_method_14_code, 4, none, tb_14)
def tb_15 : List am_I := [(0, .iconst 0, 1, (0, 0, 0, .int 0)),
  (1, .istore_n 2, 1, (0, 0, 0, .null)),
  (2, .iload_n 2, 1, (0, 0, 0, .null)),
  (3, .aload_n 0, 1, (0, 0, 0, .null)),
  (4, .getfield 19, 3, (7, 2, 218, .null)),
  (7, .getfield 34, 3, (5, 8, 138, .null)),
  (10, .if_icmp .ge 43, 3, (53, 0, 0, .null)),
  (13, .aload_n 0, 1, (0, 0, 0, .null)),
  (14, .getfield 19, 3, (7, 2, 218, .null)),
  (17, .iload_n 2, 1, (0, 0, 0, .null)),
  (18, .invokevirtual 130, 3, (33, 1, 638, .ref 5)),
  (21, .ifCond .eq 26, 3, (47, 0, 0, .null)),
  (24, .aload_n 0, 1, (0, 0, 0, .null)),
  (25, .getfield 19, 3, (7, 2, 218, .null)),
  (28, .getfield 45, 3, (5, 5, 131, .null)),
  (31, .iload_n 2, 1, (0, 0, 0, .null)),
  (32, .iaload, 1, (0, 0, 0, .null)),
  (33, .iload_n 1, 1, (0, 0, 0, .null)),
  (34, .if_icmp .ne 13, 3, (47, 0, 0, .null)),
  (37, .aload_n 0, 1, (0, 0, 0, .null)),
  (38, .iload_n 2, 1, (0, 0, 0, .null)),
  (39, .invokevirtual 133, 3, (16, 1, 643, .ref 7)),
  (42, .ifCond .eq 5, 3, (47, 0, 0, .null)),
  (45, .iconst 1, 1, (0, 0, 0, .int 1)),
  (46, .ireturn, 1, (0, 0, 0, .null)),
  (47, .iinc 2 1, 3, (0, 0, 0, .null)),
  (50, .goto (-48), 3, (2, 0, 0, .null)),
  (53, .iconst 0, 1, (0, 0, 0, .int 0)),
  (54, .ireturn, 1, (0, 0, 0, .null))]
abbrev md_15 : am_M := (⟨"BindingServer$Binder", "isKnown", "(I)Z"⟩, prog_2_method_15_code, 3, some .boolean, tb_15)
def tb_16 : List am_I := [(0, .aload_n 0, 1, (0, 0, 0, .null)),
  (1, .getfield 19, 3, (7, 2, 218, .null)),
  (4, .getfield 84, 3, (5, 3, 128, .null)),
  (7, .iload_n 1, 1, (0, 0, 0, .null)),
  (8, .iaload, 1, (0, 0, 0, .null)),
  (9, .istore_n 2, 1, (0, 0, 0, .null)),
  (10, .aload_n 0, 1, (0, 0, 0, .null)),
  (11, .getfield 19, 3, (7, 2, 218, .null)),
  (14, .iload_n 2, 1, (0, 0, 0, .null)),
  (15, .aload_n 0, 1, (0, 0, 0, .null)),
  (16, .getfield 19, 3, (7, 2, 218, .null)),
  (19, .getfield 45, 3, (5, 5, 131, .null)),
  (22, .iload_n 1, 1, (0, 0, 0, .null)),
  (23, .iaload, 1, (0, 0, 0, .null)),
  (24, .aload_n 0, 1, (0, 0, 0, .null)),
  (25, .getfield 19, 3, (7, 2, 218, .null)),
  (28, .getfield 34, 3, (5, 8, 138, .null)),
  (31, .invokevirtual 87, 3, (34, 3, 594, .ref 5)),
  (34, .istore_n 3, 1, (0, 0, 0, .null)),
  (35, .iload_n 2, 1, (0, 0, 0, .null)),
  (36, .ifCond .eq 9, 3, (45, 0, 0, .null)),
  (39, .iload_n 3, 1, (0, 0, 0, .null)),
  (40, .iconst 4, 1, (0, 0, 0, .int 4)),
  (41, .iand, 1, (0, 0, 0, .null)),
  (42, .ifCond .eq 7, 3, (49, 0, 0, .null)),
  (45, .iconst 1, 1, (0, 0, 0, .int 1)),
  (46, .goto 4, 3, (50, 0, 0, .null)),
  (49, .iconst 0, 1, (0, 0, 0, .int 0)),
  (50, .ireturn, 1, (0, 0, 0, .null))]
abbrev md_16 : am_M := (⟨"BindingServer$Binder", "isOfModule", "(I)Z"⟩, prog_2_method_16_code, 4, some .boolean, tb_16)
def tb_17 : List am_I := [(0, .iconst 0, 1, (0, 0, 0, .int 0)),
  (1, .istore_n 1, 1, (0, 0, 0, .null)),
  (2, .iload_n 1, 1, (0, 0, 0, .null)),
  (3, .aload_n 0, 1, (0, 0, 0, .null)),
  (4, .getfield 19, 3, (7, 2, 218, .null)),
  (7, .getfield 34, 3, (5, 8, 138, .null)),
  (10, .if_icmp .ge 40, 3, (50, 0, 0, .null)),
  (13, .aload_n 0, 1, (0, 0, 0, .null)),
  (14, .getfield 19, 3, (7, 2, 218, .null)),
  (17, .getfield 124, 3, (5, 6, 133, .null)),
  (20, .iload_n 1, 1, (0, 0, 0, .null)),
  (21, .iaload, 1, (0, 0, 0, .null)),
  (22, .iconst 1, 1, (0, 0, 0, .int 1)),
  (23, .if_icmp .ne 21, 3, (44, 0, 0, .null)),
  (26, .aload_n 0, 1, (0, 0, 0, .null)),
  (27, .iload_n 1, 1, (0, 0, 0, .null)),
  (28, .invokevirtual 136, 3, (18, 1, 651, .ref 7)),
  (31, .ifCond .eq 13, 3, (44, 0, 0, .null)),
  (34, .aload_n 0, 1, (0, 0, 0, .null)),
  (35, .getfield 19, 3, (7, 2, 218, .null)),
  (38, .getfield 124, 3, (5, 6, 133, .null)),
  (41, .iload_n 1, 1, (0, 0, 0, .null)),
  (42, .iconst 2, 1, (0, 0, 0, .int 2)),
  (43, .iastore, 1, (0, 0, 0, .null)),
  (44, .iinc 1 1, 3, (0, 0, 0, .null)),
  (47, .goto (-45), 3, (2, 0, 0, .null)),
  (50, .return_, 1, (0, 0, 0, .null))]
abbrev md_17 : am_M := (⟨"BindingServer$Binder", "markCells", "()V"⟩, prog_2_method_17_code, 2, none, tb_17)
def tb_18 : List am_I := [(0, .iconst 0, 1, (0, 0, 0, .int 0)),
  (1, .istore_n 2, 1, (0, 0, 0, .null)),
  (2, .iload_n 2, 1, (0, 0, 0, .null)),
  (3, .aload_n 0, 1, (0, 0, 0, .null)),
  (4, .getfield 19, 3, (7, 2, 218, .null)),
  (7, .getfield 34, 3, (5, 8, 138, .null)),
  (10, .if_icmp .ge 36, 3, (46, 0, 0, .null)),
  (13, .aload_n 0, 1, (0, 0, 0, .null)),
  (14, .getfield 19, 3, (7, 2, 218, .null)),
  (17, .getfield 124, 3, (5, 6, 133, .null)),
  (20, .iload_n 2, 1, (0, 0, 0, .null)),
  (21, .iaload, 1, (0, 0, 0, .null)),
  (22, .iconst 3, 1, (0, 0, 0, .int 3)),
  (23, .if_icmp .ne 17, 3, (40, 0, 0, .null)),
  (26, .aload_n 0, 1, (0, 0, 0, .null)),
  (27, .getfield 19, 3, (7, 2, 218, .null)),
  (30, .iload_n 1, 1, (0, 0, 0, .null)),
  (31, .iload_n 2, 1, (0, 0, 0, .null)),
  (32, .invokevirtual 139, 3, (35, 2, 655, .ref 5)),
  (35, .ifCond .eq 5, 3, (40, 0, 0, .null)),
  (38, .iconst 1, 1, (0, 0, 0, .int 1)),
  (39, .ireturn, 1, (0, 0, 0, .null)),
  (40, .iinc 2 1, 3, (0, 0, 0, .null)),
  (43, .goto (-41), 3, (2, 0, 0, .null)),
  (46, .iconst 0, 1, (0, 0, 0, .int 0)),
  (47, .ireturn, 1, (0, 0, 0, .null))]
abbrev md_18 : am_M := (⟨"BindingServer$Binder", "isUsedInside", "(I)Z"⟩, prog_2_method_18_code, 3, some .boolean, tb_18)
def tb_19 : List am_I := [(0, .lload_n 0, 1, (0, 0, 0, .null)),
  (1, .bipush 56, 2, (0, 0, 0, .int 56)),
  (3, .bipush 8, 2, (0, 0, 0, .int 8)),
  (5, .iload_n 2, 1, (0, 0, 0, .null)),
  (6, .imul, 1, (0, 0, 0, .null)),
  (7, .isub, 1, (0, 0, 0, .null)),
  (8, .lushr, 1, (0, 0, 0, .null)),
  (9, .l2i, 1, (0, 0, 0, .null)),
  (10, .sipush 255, 3, (0, 0, 0, .int 255)),
  (13, .iand, 1, (0, 0, 0, .null)),
  (14, .ireturn, 1, (0, 0, 0, .null))]
abbrev md_19 : am_M := (⟨"BindingServer$Eight", "byteAt", "(JI)I"⟩, prog_3_method_2_code, 3, some .int, tb_19)
def tb_20 : List am_I := [(0, .iconst 0, 1, (0, 0, 0, .int 0)),
  (1, .istore_n 2, 1, (0, 0, 0, .null)),
  (2, .iconst 0, 1, (0, 0, 0, .int 0)),
  (3, .istore_n 3, 1, (0, 0, 0, .null)),
  (4, .iload_n 3, 1, (0, 0, 0, .null)),
  (5, .bipush 8, 2, (0, 0, 0, .int 8)),
  (7, .if_icmp .ge 20, 3, (27, 0, 0, .null)),
  (10, .lload_n 0, 1, (0, 0, 0, .null)),
  (11, .iload_n 3, 1, (0, 0, 0, .null)),
  (12, .invokestatic 9, 3, (19, 2, 291, .null)),
  (15, .ifCond .eq 6, 3, (21, 0, 0, .null)),
  (18, .iinc 2 1, 3, (0, 0, 0, .null)),
  (21, .iinc 3 1, 3, (0, 0, 0, .null)),
  (24, .goto (-20), 3, (4, 0, 0, .null)),
  (27, .iload_n 2, 1, (0, 0, 0, .null)),
  (28, .ireturn, 1, (0, 0, 0, .null))]
abbrev md_20 : am_M := (⟨"BindingServer$Eight", "size", "(J)I"⟩, prog_3_method_3_code, 4, some .int, tb_20)
def tb_21 : List am_I := [(0, .iconst 0, 1, (0, 0, 0, .int 0)),
  (1, .istore_n 2, 1, (0, 0, 0, .null)),
  (2, .iload_n 2, 1, (0, 0, 0, .null)),
  (3, .bipush 8, 2, (0, 0, 0, .int 8)),
  (5, .if_icmp .ge 28, 3, (33, 0, 0, .null)),
  (8, .lload_n 0, 1, (0, 0, 0, .null)),
  (9, .iload_n 2, 1, (0, 0, 0, .null)),
  (10, .invokestatic 9, 3, (19, 2, 291, .null)),
  (13, .istore_n 3, 1, (0, 0, 0, .null)),
  (14, .iload_n 3, 1, (0, 0, 0, .null)),
  (15, .ifCond .eq 12, 3, (27, 0, 0, .null)),
  (18, .iload_n 3, 1, (0, 0, 0, .null)),
  (19, .invokestatic 13, 3, (81, 1, 294, .null)),
  (22, .ifCond .ne 5, 3, (27, 0, 0, .null)),
  (25, .iconst 0, 1, (0, 0, 0, .int 0)),
  (26, .ireturn, 1, (0, 0, 0, .null)),
  (27, .iinc 2 1, 3, (0, 0, 0, .null)),
  (30, .goto (-28), 3, (2, 0, 0, .null)),
  (33, .iconst 1, 1, (0, 0, 0, .int 1)),
  (34, .ireturn, 1, (0, 0, 0, .null))]
abbrev md_21 : am_M := (⟨"BindingServer$Eight", "areCharacters", "(J)Z"⟩, prog_3_method_4_code, 4, some .boolean, tb_21)
def tb_22 : List am_I := [(0, .lconst 0, 1, (0, 0, 0, .long 0)),
  (1, .lstore_n 2, 1, (0, 0, 0, .null)),
  (2, .iconst 0, 1, (0, 0, 0, .int 0)),
  (3, .istore 4, 2, (0, 0, 0, .null)),
  (5, .iload 4, 2, (0, 0, 0, .null)),
  (7, .bipush 8, 2, (0, 0, 0, .int 8)),
  (9, .if_icmp .ge 59, 3, (68, 0, 0, .null)),
  (12, .lload_n 0, 1, (0, 0, 0, .null)),
  (13, .iload 4, 2, (0, 0, 0, .null)),
  (15, .invokestatic 9, 3, (19, 2, 291, .null)),
  (18, .istore 5, 2, (0, 0, 0, .null)),
  (20, .iload 5, 2, (0, 0, 0, .null)),
  (22, .ifCond .eq 40, 3, (62, 0, 0, .null)),
  (25, .lload_n 2, 1, (0, 0, 0, .null)),
  (26, .lconst 0, 1, (0, 0, 0, .long 0)),
  (27, .lcmp, 1, (0, 0, 0, .null)),
  (28, .ifCond .ne 11, 3, (39, 0, 0, .null)),
  (31, .iload 5, 2, (0, 0, 0, .null)),
  (33, .invokestatic 19, 3, (83, 1, 752, .null)),
  (36, .goto 8, 3, (44, 0, 0, .null)),
  (39, .iload 5, 2, (0, 0, 0, .null)),
  (41, .invokestatic 22, 3, (84, 1, 753, .null)),
  (44, .istore 6, 2, (0, 0, 0, .null)),
  (46, .iload 6, 2, (0, 0, 0, .null)),
  (48, .ifCond .ne 5, 3, (53, 0, 0, .null)),
  (51, .iconst 0, 1, (0, 0, 0, .int 0)),
  (52, .ireturn, 1, (0, 0, 0, .null)),
  (53, .lload_n 2, 1, (0, 0, 0, .null)),
  (54, .bipush 8, 2, (0, 0, 0, .int 8)),
  (56, .lshl, 1, (0, 0, 0, .null)),
  (57, .iload 5, 2, (0, 0, 0, .null)),
  (59, .i2l, 1, (0, 0, 0, .null)),
  (60, .lor, 1, (0, 0, 0, .null)),
  (61, .lstore_n 2, 1, (0, 0, 0, .null)),
  (62, .iinc 4 1, 3, (0, 0, 0, .null)),
  (65, .goto (-60), 3, (5, 0, 0, .null)),
  (68, .lload_n 2, 1, (0, 0, 0, .null)),
  (69, .lconst 0, 1, (0, 0, 0, .long 0)),
  (70, .lcmp, 1, (0, 0, 0, .null)),
  (71, .ifCond .eq 14, 3, (85, 0, 0, .null)),
  (74, .lload_n 2, 1, (0, 0, 0, .null)),
  (75, .invokestatic 25, 3, (93, 1, 754, .null)),
  (78, .ifCond .ne 7, 3, (85, 0, 0, .null)),
  (81, .iconst 1, 1, (0, 0, 0, .int 1)),
  (82, .goto 4, 3, (86, 0, 0, .null)),
  (85, .iconst 0, 1, (0, 0, 0, .int 0)),
  (86, .ireturn, 1, (0, 0, 0, .null))]
abbrev md_22 : am_M := (⟨"BindingServer$Eight", "isName", "(J)Z"⟩, prog_3_method_5_code, 7, some .boolean, tb_22)
def tb_23 : List am_I := [(0, .aload_n 0, 1, (0, 0, 0, .null)),
  (1, .invokespecial 3, 3, (1002, 0, 82, .null)),
  (4, .aload_n 0, 1, (0, 0, 0, .null)),
  (5, .sipush 204, 3, (0, 0, 0, .int 204)),
  (8, .newarray .int, 2, (0, 0, 0, .null)),
  (10, .putfield 11, 3, (3, 0, 83, .null)),
  (13, .aload_n 0, 1, (0, 0, 0, .null)),
  (14, .sipush 204, 3, (0, 0, 0, .int 204)),
  (17, .newarray .int, 2, (0, 0, 0, .null)),
  (19, .putfield 15, 3, (3, 1, 84, .null)),
  (22, .return_, 1, (0, 0, 0, .null))]
abbrev md_23 : am_M := (⟨"BindingServer$Extents", "<init>", "()V"⟩, prog_4_method_1_code, 1, none, tb_23)
def tb_24 : List am_I := [(0, .iconst 0, 1, (0, 0, 0, .int 0)),
  (1, .istore_n 3, 1, (0, 0, 0, .null)),
  (2, .iload_n 3, 1, (0, 0, 0, .null)),
  (3, .aload_n 0, 1, (0, 0, 0, .null)),
  (4, .getfield 18, 3, (3, 2, 85, .null)),
  (7, .if_icmp .ge 30, 3, (37, 0, 0, .null)),
  (10, .aload_n 0, 1, (0, 0, 0, .null)),
  (11, .getfield 11, 3, (3, 0, 83, .null)),
  (14, .iload_n 3, 1, (0, 0, 0, .null)),
  (15, .iaload, 1, (0, 0, 0, .null)),
  (16, .iload_n 1, 1, (0, 0, 0, .null)),
  (17, .if_icmp .ne 14, 3, (31, 0, 0, .null)),
  (20, .aload_n 0, 1, (0, 0, 0, .null)),
  (21, .getfield 15, 3, (3, 1, 84, .null)),
  (24, .iload_n 3, 1, (0, 0, 0, .null)),
  (25, .iaload, 1, (0, 0, 0, .null)),
  (26, .iload_n 2, 1, (0, 0, 0, .null)),
  (27, .if_icmp .ne 4, 3, (31, 0, 0, .null)),
  (30, .return_, 1, (0, 0, 0, .null)),
  (31, .iinc 3 1, 3, (0, 0, 0, .null)),
  (34, .goto (-32), 3, (2, 0, 0, .null)),
  (37, .aload_n 0, 1, (0, 0, 0, .null)),
  (38, .getfield 18, 3, (3, 2, 85, .null)),
  (41, .sipush 204, 3, (0, 0, 0, .int 204)),
  (44, .if_icmp .ge 33, 3, (77, 0, 0, .null)),
  (47, .aload_n 0, 1, (0, 0, 0, .null)),
  (48, .getfield 11, 3, (3, 0, 83, .null)),
  (51, .aload_n 0, 1, (0, 0, 0, .null)),
  (52, .getfield 18, 3, (3, 2, 85, .null)),
  (55, .iload_n 1, 1, (0, 0, 0, .null)),
  (56, .iastore, 1, (0, 0, 0, .null)),
  (57, .aload_n 0, 1, (0, 0, 0, .null)),
  (58, .getfield 15, 3, (3, 1, 84, .null)),
  (61, .aload_n 0, 1, (0, 0, 0, .null)),
  (62, .getfield 18, 3, (3, 2, 85, .null)),
  (65, .iload_n 2, 1, (0, 0, 0, .null)),
  (66, .iastore, 1, (0, 0, 0, .null)),
  (67, .aload_n 0, 1, (0, 0, 0, .null)),
  (68, .dup, 1, (0, 0, 0, .null)),
  (69, .getfield 18, 3, (3, 2, 85, .null)),
  (72, .iconst 1, 1, (0, 0, 0, .int 1)),
  (73, .iadd, 1, (0, 0, 0, .null)),
  (74, .putfield 18, 3, (3, 2, 85, .null)),
  (77, .return_, 1, (0, 0, 0, .null))]
abbrev md_24 : am_M := (⟨"BindingServer$Extents", "add", "(II)V"⟩, prog_4_method_2_code, 4, none, tb_24)
def tb_25 : List am_I := [(0, .iconst 0, 1, (0, 0, 0, .int 0)),
  (1, .istore_n 3, 1, (0, 0, 0, .null)),
  (2, .iload_n 3, 1, (0, 0, 0, .null)),
  (3, .aload_n 0, 1, (0, 0, 0, .null)),
  (4, .getfield 18, 3, (3, 2, 85, .null)),
  (7, .if_icmp .ge 46, 3, (53, 0, 0, .null)),
  (10, .aload_n 0, 1, (0, 0, 0, .null)),
  (11, .iload_n 3, 1, (0, 0, 0, .null)),
  (12, .iload_n 1, 1, (0, 0, 0, .null)),
  (13, .invokevirtual 22, 3, (27, 2, 689, .ref 3)),
  (16, .ifCond .eq 31, 3, (47, 0, 0, .null)),
  (19, .aload_n 0, 1, (0, 0, 0, .null)),
  (20, .iload_n 3, 1, (0, 0, 0, .null)),
  (21, .iload_n 1, 1, (0, 0, 0, .null)),
  (22, .invokevirtual 26, 3, (26, 2, 693, .ref 3)),
  (25, .iload_n 2, 1, (0, 0, 0, .null)),
  (26, .if_icmp .ne 21, 3, (47, 0, 0, .null)),
  (29, .aload_n 0, 1, (0, 0, 0, .null)),
  (30, .getfield 11, 3, (3, 0, 83, .null)),
  (33, .iload_n 3, 1, (0, 0, 0, .null)),
  (34, .iaload, 1, (0, 0, 0, .null)),
  (35, .sipush 256, 3, (0, 0, 0, .int 256)),
  (38, .aload_n 0, 1, (0, 0, 0, .null)),
  (39, .getfield 15, 3, (3, 1, 84, .null)),
  (42, .iload_n 3, 1, (0, 0, 0, .null)),
  (43, .iaload, 1, (0, 0, 0, .null)),
  (44, .imul, 1, (0, 0, 0, .null)),
  (45, .iadd, 1, (0, 0, 0, .null)),
  (46, .ireturn, 1, (0, 0, 0, .null)),
  (47, .iinc 3 1, 3, (0, 0, 0, .null)),
  (50, .goto (-48), 3, (2, 0, 0, .null)),
  (53, .iconst (-1), 1, (0, 0, 0, .int (-1))),
  (54, .ireturn, 1, (0, 0, 0, .null))]
abbrev md_25 : am_M := (⟨"BindingServer$Extents", "find", "(II)I"⟩, prog_4_method_3_code, 4, some .int, tb_25)
def tb_26 : List am_I := [(0, .iconst 0, 1, (0, 0, 0, .int 0)),
  (1, .istore_n 3, 1, (0, 0, 0, .null)),
  (2, .iconst 0, 1, (0, 0, 0, .int 0)),
  (3, .istore 4, 2, (0, 0, 0, .null)),
  (5, .iload 4, 2, (0, 0, 0, .null)),
  (7, .aload_n 0, 1, (0, 0, 0, .null)),
  (8, .getfield 18, 3, (3, 2, 85, .null)),
  (11, .if_icmp .ge 53, 3, (64, 0, 0, .null)),
  (14, .aload_n 0, 1, (0, 0, 0, .null)),
  (15, .iload 4, 2, (0, 0, 0, .null)),
  (17, .iload_n 2, 1, (0, 0, 0, .null)),
  (18, .invokevirtual 22, 3, (27, 2, 689, .ref 3)),
  (21, .ifCond .eq 37, 3, (58, 0, 0, .null)),
  (24, .aload_n 0, 1, (0, 0, 0, .null)),
  (25, .getfield 15, 3, (3, 1, 84, .null)),
  (28, .iload 4, 2, (0, 0, 0, .null)),
  (30, .iaload, 1, (0, 0, 0, .null)),
  (31, .aload_n 0, 1, (0, 0, 0, .null)),
  (32, .getfield 11, 3, (3, 0, 83, .null)),
  (35, .iload 4, 2, (0, 0, 0, .null)),
  (37, .iaload, 1, (0, 0, 0, .null)),
  (38, .isub, 1, (0, 0, 0, .null)),
  (39, .aload_n 0, 1, (0, 0, 0, .null)),
  (40, .getfield 15, 3, (3, 1, 84, .null)),
  (43, .iload_n 1, 1, (0, 0, 0, .null)),
  (44, .iaload, 1, (0, 0, 0, .null)),
  (45, .aload_n 0, 1, (0, 0, 0, .null)),
  (46, .getfield 11, 3, (3, 0, 83, .null)),
  (49, .iload_n 1, 1, (0, 0, 0, .null)),
  (50, .iaload, 1, (0, 0, 0, .null)),
  (51, .isub, 1, (0, 0, 0, .null)),
  (52, .if_icmp .ge 6, 3, (58, 0, 0, .null)),
  (55, .iinc 3 1, 3, (0, 0, 0, .null)),
  (58, .iinc 4 1, 3, (0, 0, 0, .null)),
  (61, .goto (-56), 3, (5, 0, 0, .null)),
  (64, .iload_n 3, 1, (0, 0, 0, .null)),
  (65, .ireturn, 1, (0, 0, 0, .null))]
abbrev md_26 : am_M := (⟨"BindingServer$Extents", "countSmaller", "(II)I"⟩, prog_4_method_4_code, 5, some .int, tb_26)
def tb_27 : List am_I := [(0, .aload_n 0, 1, (0, 0, 0, .null)),
  (1, .getfield 11, 3, (3, 0, 83, .null)),
  (4, .iload_n 1, 1, (0, 0, 0, .null)),
  (5, .iaload, 1, (0, 0, 0, .null)),
  (6, .iload_n 2, 1, (0, 0, 0, .null)),
  (7, .if_icmp .gt 17, 3, (24, 0, 0, .null)),
  (10, .iload_n 2, 1, (0, 0, 0, .null)),
  (11, .aload_n 0, 1, (0, 0, 0, .null)),
  (12, .getfield 15, 3, (3, 1, 84, .null)),
  (15, .iload_n 1, 1, (0, 0, 0, .null)),
  (16, .iaload, 1, (0, 0, 0, .null)),
  (17, .if_icmp .ge 7, 3, (24, 0, 0, .null)),
  (20, .iconst 1, 1, (0, 0, 0, .int 1)),
  (21, .goto 4, 3, (25, 0, 0, .null)),
  (24, .iconst 0, 1, (0, 0, 0, .int 0)),
  (25, .ireturn, 1, (0, 0, 0, .null))]
abbrev md_27 : am_M := (⟨"BindingServer$Extents", "holds", "(II)Z"⟩, prog_4_method_5_code, 3, some .boolean, tb_27)
def tb_28 : List am_I := [(0, .aload_n 0, 1, (0, 0, 0, .null)),
  (1, .invokespecial 3, 3, (1002, 0, 120, .null)),
  (4, .aload_n 0, 1, (0, 0, 0, .null)),
  (5, .bipush 100, 2, (0, 0, 0, .int 100)),
  (7, .newarray .int, 2, (0, 0, 0, .null)),
  (9, .putfield 11, 3, (5, 0, 121, .null)),
  (12, .aload_n 0, 1, (0, 0, 0, .null)),
  (13, .bipush 100, 2, (0, 0, 0, .int 100)),
  (15, .newarray .int, 2, (0, 0, 0, .null)),
  (17, .putfield 15, 3, (5, 1, 124, .null)),
  (20, .aload_n 0, 1, (0, 0, 0, .null)),
  (21, .bipush 100, 2, (0, 0, 0, .int 100)),
  (23, .newarray .int, 2, (0, 0, 0, .null)),
  (25, .putfield 18, 3, (5, 2, 125, .null)),
  (28, .aload_n 0, 1, (0, 0, 0, .null)),
  (29, .bipush 100, 2, (0, 0, 0, .int 100)),
  (31, .newarray .int, 2, (0, 0, 0, .null)),
  (33, .putfield 21, 3, (5, 3, 127, .null)),
  (36, .aload_n 0, 1, (0, 0, 0, .null)),
  (37, .bipush 100, 2, (0, 0, 0, .int 100)),
  (39, .newarray .int, 2, (0, 0, 0, .null)),
  (41, .putfield 24, 3, (5, 4, 129, .null)),
  (44, .aload_n 0, 1, (0, 0, 0, .null)),
  (45, .bipush 100, 2, (0, 0, 0, .int 100)),
  (47, .newarray .int, 2, (0, 0, 0, .null)),
  (49, .putfield 27, 3, (5, 5, 130, .null)),
  (52, .aload_n 0, 1, (0, 0, 0, .null)),
  (53, .bipush 100, 2, (0, 0, 0, .int 100)),
  (55, .newarray .int, 2, (0, 0, 0, .null)),
  (57, .putfield 30, 3, (5, 6, 132, .null)),
  (60, .aload_n 0, 1, (0, 0, 0, .null)),
  (61, .bipush 100, 2, (0, 0, 0, .int 100)),
  (63, .newarray .int, 2, (0, 0, 0, .null)),
  (65, .putfield 33, 3, (5, 7, 135, .null)),
  (68, .return_, 1, (0, 0, 0, .null))]
abbrev md_28 : am_M := (⟨"BindingServer$Occurrences", "<init>", "()V"⟩, prog_5_method_1_code, 1, none, tb_28)
def tb_29 : List am_I := [(0, .aload_n 0, 1, (0, 0, 0, .null)),
  (1, .getfield 36, 3, (5, 8, 137, .null)),
  (4, .bipush 100, 2, (0, 0, 0, .int 100)),
  (6, .if_icmp .ge 65, 3, (71, 0, 0, .null)),
  (9, .aload_n 0, 1, (0, 0, 0, .null)),
  (10, .getfield 11, 3, (5, 0, 121, .null)),
  (13, .aload_n 0, 1, (0, 0, 0, .null)),
  (14, .getfield 36, 3, (5, 8, 137, .null)),
  (17, .iload_n 1, 1, (0, 0, 0, .null)),
  (18, .iastore, 1, (0, 0, 0, .null)),
  (19, .aload_n 0, 1, (0, 0, 0, .null)),
  (20, .getfield 15, 3, (5, 1, 124, .null)),
  (23, .aload_n 0, 1, (0, 0, 0, .null)),
  (24, .getfield 36, 3, (5, 8, 137, .null)),
  (27, .iload_n 2, 1, (0, 0, 0, .null)),
  (28, .iastore, 1, (0, 0, 0, .null)),
  (29, .aload_n 0, 1, (0, 0, 0, .null)),
  (30, .getfield 18, 3, (5, 2, 125, .null)),
  (33, .aload_n 0, 1, (0, 0, 0, .null)),
  (34, .getfield 36, 3, (5, 8, 137, .null)),
  (37, .iload_n 3, 1, (0, 0, 0, .null)),
  (38, .iastore, 1, (0, 0, 0, .null)),
  (39, .aload_n 0, 1, (0, 0, 0, .null)),
  (40, .getfield 21, 3, (5, 3, 127, .null)),
  (43, .aload_n 0, 1, (0, 0, 0, .null)),
  (44, .getfield 36, 3, (5, 8, 137, .null)),
  (47, .iload 4, 2, (0, 0, 0, .null)),
  (49, .iastore, 1, (0, 0, 0, .null)),
  (50, .aload_n 0, 1, (0, 0, 0, .null)),
  (51, .getfield 24, 3, (5, 4, 129, .null)),
  (54, .aload_n 0, 1, (0, 0, 0, .null)),
  (55, .getfield 36, 3, (5, 8, 137, .null)),
  (58, .iload 5, 2, (0, 0, 0, .null)),
  (60, .iastore, 1, (0, 0, 0, .null)),
  (61, .aload_n 0, 1, (0, 0, 0, .null)),
  (62, .dup, 1, (0, 0, 0, .null)),
  (63, .getfield 36, 3, (5, 8, 137, .null)),
  (66, .iconst 1, 1, (0, 0, 0, .int 1)),
  (67, .iadd, 1, (0, 0, 0, .null)),
  (68, .putfield 36, 3, (5, 8, 137, .null)),
  (71, .return_, 1, (0, 0, 0, .null))]
abbrev md_29 : am_M := (⟨"BindingServer$Occurrences", "add", "(IIIII)V"⟩, prog_5_method_2_code, 6, none, tb_29)
def tb_30 : List am_I := [(0, .iconst 0, 1, (0, 0, 0, .int 0)),
  (1, .istore_n 2, 1, (0, 0, 0, .null)),
  (2, .iload_n 2, 1, (0, 0, 0, .null)),
  (3, .aload_n 0, 1, (0, 0, 0, .null)),
  (4, .getfield 36, 3, (5, 8, 137, .null)),
  (7, .if_icmp .ge 31, 3, (38, 0, 0, .null)),
  (10, .aload_n 0, 1, (0, 0, 0, .null)),
  (11, .getfield 11, 3, (5, 0, 121, .null)),
  (14, .iload_n 2, 1, (0, 0, 0, .null)),
  (15, .iaload, 1, (0, 0, 0, .null)),
  (16, .iload_n 1, 1, (0, 0, 0, .null)),
  (17, .if_icmp .gt 15, 3, (32, 0, 0, .null)),
  (20, .iload_n 1, 1, (0, 0, 0, .null)),
  (21, .aload_n 0, 1, (0, 0, 0, .null)),
  (22, .getfield 15, 3, (5, 1, 124, .null)),
  (25, .iload_n 2, 1, (0, 0, 0, .null)),
  (26, .iaload, 1, (0, 0, 0, .null)),
  (27, .if_icmp .ge 5, 3, (32, 0, 0, .null)),
  (30, .iload_n 2, 1, (0, 0, 0, .null)),
  (31, .ireturn, 1, (0, 0, 0, .null)),
  (32, .iinc 2 1, 3, (0, 0, 0, .null)),
  (35, .goto (-33), 3, (2, 0, 0, .null)),
  (38, .iconst (-1), 1, (0, 0, 0, .int (-1))),
  (39, .ireturn, 1, (0, 0, 0, .null))]
abbrev md_30 : am_M := (⟨"BindingServer$Occurrences", "find", "(I)I"⟩, prog_5_method_3_code, 3, some .int, tb_30)
def tb_31 : List am_I := [(0, .aload_n 0, 1, (0, 0, 0, .null)),
  (1, .getfield 15, 3, (5, 1, 124, .null)),
  (4, .iload_n 1, 1, (0, 0, 0, .null)),
  (5, .iaload, 1, (0, 0, 0, .null)),
  (6, .aload_n 0, 1, (0, 0, 0, .null)),
  (7, .getfield 11, 3, (5, 0, 121, .null)),
  (10, .iload_n 1, 1, (0, 0, 0, .null)),
  (11, .iaload, 1, (0, 0, 0, .null)),
  (12, .isub, 1, (0, 0, 0, .null)),
  (13, .ireturn, 1, (0, 0, 0, .null))]
abbrev md_31 : am_M := (⟨"BindingServer$Occurrences", "widthOf", "(I)I"⟩, prog_5_method_4_code, 2, some .int, tb_31)
def tb_32 : List am_I := [(0, .aload_n 0, 1, (0, 0, 0, .null)),
  (1, .getfield 24, 3, (5, 4, 129, .null)),
  (4, .iload_n 1, 1, (0, 0, 0, .null)),
  (5, .iaload, 1, (0, 0, 0, .null)),
  (6, .iload_n 2, 1, (0, 0, 0, .null)),
  (7, .iand, 1, (0, 0, 0, .null)),
  (8, .ifCond .eq 7, 3, (15, 0, 0, .null)),
  (11, .iconst 1, 1, (0, 0, 0, .int 1)),
  (12, .goto 4, 3, (16, 0, 0, .null)),
  (15, .iconst 0, 1, (0, 0, 0, .int 0)),
  (16, .ireturn, 1, (0, 0, 0, .null))]
abbrev md_32 : am_M := (⟨"BindingServer$Occurrences", "has", "(II)Z"⟩, prog_5_method_5_code, 3, some .boolean, tb_32)
def tb_33 : List am_I := [(0, .aload_n 0, 1, (0, 0, 0, .null)),
  (1, .iload_n 1, 1, (0, 0, 0, .null)),
  (2, .iconst 2, 1, (0, 0, 0, .int 2)),
  (3, .invokevirtual 40, 3, (32, 2, 642, .ref 5)),
  (6, .ireturn, 1, (0, 0, 0, .null))]
abbrev md_33 : am_M := (⟨"BindingServer$Occurrences", "binds", "(I)Z"⟩, prog_5_method_6_code, 2, some .boolean, tb_33)
def tb_34 : List am_I := [(0, .iconst 0, 1, (0, 0, 0, .int 0)),
  (1, .istore 4, 2, (0, 0, 0, .null)),
  (3, .iconst 0, 1, (0, 0, 0, .int 0)),
  (4, .istore 5, 2, (0, 0, 0, .null)),
  (6, .iload 5, 2, (0, 0, 0, .null)),
  (8, .iload_n 3, 1, (0, 0, 0, .null)),
  (9, .if_icmp .ge 52, 3, (61, 0, 0, .null)),
  (12, .iload 5, 2, (0, 0, 0, .null)),
  (14, .aload_n 0, 1, (0, 0, 0, .null)),
  (15, .getfield 36, 3, (5, 8, 137, .null)),
  (18, .if_icmp .ge 43, 3, (61, 0, 0, .null)),
  (21, .aload_n 0, 1, (0, 0, 0, .null)),
  (22, .getfield 21, 3, (5, 3, 127, .null)),
  (25, .iload 5, 2, (0, 0, 0, .null)),
  (27, .iaload, 1, (0, 0, 0, .null)),
  (28, .iload_n 1, 1, (0, 0, 0, .null)),
  (29, .if_icmp .ne 26, 3, (55, 0, 0, .null)),
  (32, .aload_n 0, 1, (0, 0, 0, .null)),
  (33, .getfield 27, 3, (5, 5, 130, .null)),
  (36, .iload 5, 2, (0, 0, 0, .null)),
  (38, .iaload, 1, (0, 0, 0, .null)),
  (39, .iload_n 2, 1, (0, 0, 0, .null)),
  (40, .if_icmp .ne 15, 3, (55, 0, 0, .null)),
  (43, .iload 4, 2, (0, 0, 0, .null)),
  (45, .aload_n 0, 1, (0, 0, 0, .null)),
  (46, .getfield 24, 3, (5, 4, 129, .null)),
  (49, .iload 5, 2, (0, 0, 0, .null)),
  (51, .iaload, 1, (0, 0, 0, .null)),
  (52, .ior, 1, (0, 0, 0, .null)),
  (53, .istore 4, 2, (0, 0, 0, .null)),
  (55, .iinc 5 1, 3, (0, 0, 0, .null)),
  (58, .goto (-52), 3, (6, 0, 0, .null)),
  (61, .iload 4, 2, (0, 0, 0, .null)),
  (63, .ireturn, 1, (0, 0, 0, .null))]
abbrev md_34 : am_M := (⟨"BindingServer$Occurrences", "rolesIn", "(III)I"⟩, prog_5_method_7_code, 6, some .int, tb_34)
def tb_35 : List am_I := [(0, .aload_n 0, 1, (0, 0, 0, .null)),
  (1, .getfield 27, 3, (5, 5, 130, .null)),
  (4, .iload_n 1, 1, (0, 0, 0, .null)),
  (5, .iaload, 1, (0, 0, 0, .null)),
  (6, .aload_n 0, 1, (0, 0, 0, .null)),
  (7, .getfield 27, 3, (5, 5, 130, .null)),
  (10, .iload_n 2, 1, (0, 0, 0, .null)),
  (11, .iaload, 1, (0, 0, 0, .null)),
  (12, .if_icmp .ne 22, 3, (34, 0, 0, .null)),
  (15, .aload_n 0, 1, (0, 0, 0, .null)),
  (16, .getfield 33, 3, (5, 7, 135, .null)),
  (19, .iload_n 1, 1, (0, 0, 0, .null)),
  (20, .iaload, 1, (0, 0, 0, .null)),
  (21, .aload_n 0, 1, (0, 0, 0, .null)),
  (22, .getfield 33, 3, (5, 7, 135, .null)),
  (25, .iload_n 2, 1, (0, 0, 0, .null)),
  (26, .iaload, 1, (0, 0, 0, .null)),
  (27, .if_icmp .ne 7, 3, (34, 0, 0, .null)),
  (30, .iconst 1, 1, (0, 0, 0, .int 1)),
  (31, .goto 4, 3, (35, 0, 0, .null)),
  (34, .iconst 0, 1, (0, 0, 0, .int 0)),
  (35, .ireturn, 1, (0, 0, 0, .null))]
abbrev md_35 : am_M := (⟨"BindingServer$Occurrences", "sameVariable", "(II)Z"⟩, prog_5_method_8_code, 3, some .boolean, tb_35)
def tb_36 : List am_I := [(0, .iconst 0, 1, (0, 0, 0, .int 0)),
  (1, .istore_n 2, 1, (0, 0, 0, .null)),
  (2, .iload_n 2, 1, (0, 0, 0, .null)),
  (3, .iload_n 1, 1, (0, 0, 0, .null)),
  (4, .if_icmp .ge 20, 3, (24, 0, 0, .null)),
  (7, .aload_n 0, 1, (0, 0, 0, .null)),
  (8, .iload_n 1, 1, (0, 0, 0, .null)),
  (9, .iload_n 2, 1, (0, 0, 0, .null)),
  (10, .invokevirtual 44, 3, (35, 2, 759, .ref 5)),
  (13, .ifCond .eq 5, 3, (18, 0, 0, .null)),
  (16, .iload_n 2, 1, (0, 0, 0, .null)),
  (17, .ireturn, 1, (0, 0, 0, .null)),
  (18, .iinc 2 1, 3, (0, 0, 0, .null)),
  (21, .goto (-19), 3, (2, 0, 0, .null)),
  (24, .iload_n 1, 1, (0, 0, 0, .null)),
  (25, .ireturn, 1, (0, 0, 0, .null))]
abbrev md_36 : am_M := (⟨"BindingServer$Occurrences", "firstOfVariable", "(I)I"⟩, prog_5_method_9_code, 3, some .int, tb_36)
def tb_37 : List am_I := [(0, .iconst 0, 1, (0, 0, 0, .int 0)),
  (1, .istore_n 2, 1, (0, 0, 0, .null)),
  (2, .iconst 0, 1, (0, 0, 0, .int 0)),
  (3, .istore_n 3, 1, (0, 0, 0, .null)),
  (4, .iload_n 3, 1, (0, 0, 0, .null)),
  (5, .aload_n 0, 1, (0, 0, 0, .null)),
  (6, .getfield 36, 3, (5, 8, 137, .null)),
  (9, .if_icmp .ge 21, 3, (30, 0, 0, .null)),
  (12, .aload_n 0, 1, (0, 0, 0, .null)),
  (13, .iload_n 1, 1, (0, 0, 0, .null)),
  (14, .iload_n 3, 1, (0, 0, 0, .null)),
  (15, .invokevirtual 44, 3, (35, 2, 759, .ref 5)),
  (18, .ifCond .eq 6, 3, (24, 0, 0, .null)),
  (21, .iinc 2 1, 3, (0, 0, 0, .null)),
  (24, .iinc 3 1, 3, (0, 0, 0, .null)),
  (27, .goto (-23), 3, (4, 0, 0, .null)),
  (30, .iload_n 2, 1, (0, 0, 0, .null)),
  (31, .ireturn, 1, (0, 0, 0, .null))]
abbrev md_37 : am_M := (⟨"BindingServer$Occurrences", "countVariable", "(I)I"⟩, prog_5_method_10_code, 4, some .int, tb_37)
def tb_38 : List am_I := [(0, .aload_n 0, 1, (0, 0, 0, .null)),
  (1, .getfield 30, 3, (5, 6, 132, .null)),
  (4, .iload_n 1, 1, (0, 0, 0, .null)),
  (5, .iaload, 1, (0, 0, 0, .null)),
  (6, .bipush 8, 2, (0, 0, 0, .int 8)),
  (8, .aload_n 0, 1, (0, 0, 0, .null)),
  (9, .getfield 33, 3, (5, 7, 135, .null)),
  (12, .iload_n 1, 1, (0, 0, 0, .null)),
  (13, .iaload, 1, (0, 0, 0, .null)),
  (14, .imul, 1, (0, 0, 0, .null)),
  (15, .iadd, 1, (0, 0, 0, .null)),
  (16, .sipush 512, 3, (0, 0, 0, .int 512)),
  (19, .aload_n 0, 1, (0, 0, 0, .null)),
  (20, .getfield 21, 3, (5, 3, 127, .null)),
  (23, .iload_n 1, 1, (0, 0, 0, .null)),
  (24, .iaload, 1, (0, 0, 0, .null)),
  (25, .imul, 1, (0, 0, 0, .null)),
  (26, .iadd, 1, (0, 0, 0, .null)),
  (27, .ireturn, 1, (0, 0, 0, .null))]
abbrev md_38 : am_M := (⟨"BindingServer$Occurrences", "answer", "(I)I"⟩, prog_5_method_11_code, 2, some .int, tb_38)
def tb_39 : List am_I := [(0, .aload_n 0, 1, (0, 0, 0, .null)),
  (1, .invokespecial 3, 3, (1002, 0, 166, .null)),
  (4, .aload_n 0, 1, (0, 0, 0, .null)),
  (5, .aload_n 1, 1, (0, 0, 0, .null)),
  (6, .putfield 9, 3, (6, 0, 167, .null)),
  (9, .aload_n 0, 1, (0, 0, 0, .null)),
  (10, .aload_n 2, 1, (0, 0, 0, .null)),
  (11, .putfield 15, 3, (6, 1, 168, .null)),
  (14, .aload_n 0, 1, (0, 0, 0, .null)),
  (15, .aload_n 3, 1, (0, 0, 0, .null)),
  (16, .putfield 19, 3, (6, 2, 169, .null)),
  (19, .aload_n 0, 1, (0, 0, 0, .null)),
  (20, .aload 4, 2, (0, 0, 0, .null)),
  (22, .putfield 23, 3, (6, 3, 170, .null)),
  (25, .return_, 1, (0, 0, 0, .null))]
abbrev md_39 : am_M := (⟨"BindingServer$Parser", "<init>", "(LBindingServer$Tokens;LBindingServer$Scopes;LBindingServer$Occurrences;LBindingServer$Extents;)V"⟩, prog_6_method_1_code, 5, none, tb_39)
def tb_40 : List am_I := [(0, .aload_n 0, 1, (0, 0, 0, .null)),
  (1, .invokevirtual 27, 3, (41, 0, 409, .ref 6)),
  (4, .iconst 1, 1, (0, 0, 0, .int 1)),
  (5, .istore_n 1, 1, (0, 0, 0, .null)),
  (6, .iconst 0, 1, (0, 0, 0, .int 0)),
  (7, .istore_n 2, 1, (0, 0, 0, .null)),
  (8, .iload_n 2, 1, (0, 0, 0, .null)),
  (9, .aload_n 0, 1, (0, 0, 0, .null)),
  (10, .getfield 9, 3, (6, 0, 167, .null)),
  (13, .getfield 30, 3, (2, 5, 54, .null)),
  (16, .if_icmp .ge 28, 3, (44, 0, 0, .null)),
  (19, .iload_n 1, 1, (0, 0, 0, .null)),
  (20, .ifCond .eq 24, 3, (44, 0, 0, .null)),
  (23, .aload_n 0, 1, (0, 0, 0, .null)),
  (24, .getfield 36, 3, (6, 5, 172, .null)),
  (27, .bipush 7, 2, (0, 0, 0, .int 7)),
  (29, .if_icmp .eq 15, 3, (44, 0, 0, .null)),
  (32, .aload_n 0, 1, (0, 0, 0, .null)),
  (33, .iconst 0, 1, (0, 0, 0, .int 0)),
  (34, .invokevirtual 39, 3, (42, 1, 425, .ref 6)),
  (37, .istore_n 1, 1, (0, 0, 0, .null)),
  (38, .iinc 2 1, 3, (0, 0, 0, .null)),
  (41, .goto (-33), 3, (8, 0, 0, .null)),
  (44, .return_, 1, (0, 0, 0, .null))]
abbrev md_40 : am_M := (⟨"BindingServer$Parser", "read", "()V"⟩, prog_6_method_2_code, 3, none, tb_40)
def tb_41 : List am_I := [(0, .aload_n 0, 1, (0, 0, 0, .null)),
  (1, .getfield 15, 3, (6, 1, 168, .null)),
  (4, .invokevirtual 43, 3, (69, 0, 413, .ref 4)),
  (7, .aload_n 0, 1, (0, 0, 0, .null)),
  (8, .getfield 19, 3, (6, 2, 169, .null)),
  (11, .iconst 0, 1, (0, 0, 0, .int 0)),
  (12, .putfield 48, 3, (5, 8, 140, .null)),
  (15, .aload_n 0, 1, (0, 0, 0, .null)),
  (16, .getfield 23, 3, (6, 3, 170, .null)),
  (19, .iconst 0, 1, (0, 0, 0, .int 0)),
  (20, .putfield 51, 3, (3, 2, 86, .null)),
  (23, .aload_n 0, 1, (0, 0, 0, .null)),
  (24, .iconst 0, 1, (0, 0, 0, .int 0)),
  (25, .putfield 54, 3, (6, 8, 175, .null)),
  (28, .aload_n 0, 1, (0, 0, 0, .null)),
  (29, .iconst 0, 1, (0, 0, 0, .int 0)),
  (30, .putfield 57, 3, (6, 9, 176, .null)),
  (33, .aload_n 0, 1, (0, 0, 0, .null)),
  (34, .iconst 0, 1, (0, 0, 0, .int 0)),
  (35, .putfield 60, 3, (6, 10, 177, .null)),
  (38, .aload_n 0, 1, (0, 0, 0, .null)),
  (39, .iconst (-1), 1, (0, 0, 0, .int (-1))),
  (40, .putfield 63, 3, (6, 11, 179, .null)),
  (43, .aload_n 0, 1, (0, 0, 0, .null)),
  (44, .iconst (-1), 1, (0, 0, 0, .int (-1))),
  (45, .putfield 66, 3, (6, 12, 181, .null)),
  (48, .aload_n 0, 1, (0, 0, 0, .null)),
  (49, .iconst (-1), 1, (0, 0, 0, .int (-1))),
  (50, .putfield 69, 3, (6, 4, 171, .null)),
  (53, .aload_n 0, 1, (0, 0, 0, .null)),
  (54, .iconst 4, 1, (0, 0, 0, .int 4)),
  (55, .putfield 36, 3, (6, 5, 172, .null)),
  (58, .aload_n 0, 1, (0, 0, 0, .null)),
  (59, .iconst 0, 1, (0, 0, 0, .int 0)),
  (60, .putfield 72, 3, (6, 7, 174, .null)),
  (63, .aload_n 0, 1, (0, 0, 0, .null)),
  (64, .invokevirtual 75, 3, (66, 0, 421, .ref 6)),
  (67, .return_, 1, (0, 0, 0, .null))]
abbrev md_41 : am_M := (⟨"BindingServer$Parser", "begin", "()V"⟩, prog_6_method_3_code, 1, none, tb_41)
def tb_42 : List am_I := [(0, .aload_n 0, 1, (0, 0, 0, .null)),
  (1, .getfield 78, 3, (6, 6, 173, .null)),
  (4, .istore_n 2, 1, (0, 0, 0, .null)),
  (5, .aload_n 0, 1, (0, 0, 0, .null)),
  (6, .invokevirtual 81, 3, (43, 0, 429, .ref 6)),
  (9, .ifCond .eq 11, 3, (20, 0, 0, .null)),
  (12, .aload_n 0, 1, (0, 0, 0, .null)),
  (13, .iload_n 1, 1, (0, 0, 0, .null)),
  (14, .invokevirtual 85, 3, (44, 1, 433, .ref 6)),
  (17, .goto 24, 3, (41, 0, 0, .null)),
  (20, .aload_n 0, 1, (0, 0, 0, .null)),
  (21, .iload_n 1, 1, (0, 0, 0, .null)),
  (22, .invokevirtual 88, 3, (50, 1, 474, .ref 6)),
  (25, .ifCond .eq 15, 3, (40, 0, 0, .null)),
  (28, .aload_n 0, 1, (0, 0, 0, .null)),
  (29, .iconst 4, 1, (0, 0, 0, .int 4)),
  (30, .invokevirtual 91, 3, (62, 1, 441, .ref 6)),
  (33, .ifCond .eq 7, 3, (40, 0, 0, .null)),
  (36, .iconst 1, 1, (0, 0, 0, .int 1)),
  (37, .goto 4, 3, (41, 0, 0, .null)),
  (40, .iconst 0, 1, (0, 0, 0, .int 0)),
  (41, .istore_n 3, 1, (0, 0, 0, .null)),
  (42, .iload_n 3, 1, (0, 0, 0, .null)),
  (43, .ifCond .eq 15, 3, (58, 0, 0, .null)),
  (46, .aload_n 0, 1, (0, 0, 0, .null)),
  (47, .getfield 23, 3, (6, 3, 170, .null)),
  (50, .iload_n 2, 1, (0, 0, 0, .null)),
  (51, .aload_n 0, 1, (0, 0, 0, .null)),
  (52, .getfield 72, 3, (6, 7, 174, .null)),
  (55, .invokevirtual 94, 3, (24, 2, 494, .ref 3)),
  (58, .iload_n 3, 1, (0, 0, 0, .null)),
  (59, .ireturn, 1, (0, 0, 0, .null))]
abbrev md_42 : am_M := (⟨"BindingServer$Parser", "statement", "(I)Z"⟩, prog_6_method_4_code, 4, some .boolean, tb_42)
def tb_43 : List am_I := [(0, .aload_n 0, 1, (0, 0, 0, .null)),
  (1, .getfield 36, 3, (6, 5, 172, .null)),
  (4, .tableswitch 74 16 29 #[72, 72, 74, 74, 72, 74, 72, 74, 74, 74, 74, 74, 74, 72], 72, (0, 0, 0, .null)),
  (76, .iconst 1, 1, (0, 0, 0, .int 1)),
  (77, .ireturn, 1, (0, 0, 0, .null)),
  (78, .iconst 0, 1, (0, 0, 0, .int 0)),
  (79, .ireturn, 1, (0, 0, 0, .null))]
abbrev md_43 : am_M := (⟨"BindingServer$Parser", "beginsCompound", "()Z"⟩, prog_6_method_5_code, 1, some .boolean, tb_43)
def tb_44 : List am_I := [(0, .aload_n 0, 1, (0, 0, 0, .null)),
  (1, .getfield 36, 3, (6, 5, 172, .null)),
  (4, .lookupswitch 93 #[(16, 50), (17, 44), (22, 56), (29, 62)], 44, (0, 0, 0, .null)),
  (48, .aload_n 0, 1, (0, 0, 0, .null)),
  (49, .iload_n 1, 1, (0, 0, 0, .null)),
  (50, .invokevirtual 98, 3, (45, 1, 437, .ref 6)),
  (53, .ireturn, 1, (0, 0, 0, .null)),
  (54, .aload_n 0, 1, (0, 0, 0, .null)),
  (55, .iload_n 1, 1, (0, 0, 0, .null)),
  (56, .invokevirtual 101, 3, (46, 1, 546, .ref 6)),
  (59, .ireturn, 1, (0, 0, 0, .null)),
  (60, .aload_n 0, 1, (0, 0, 0, .null)),
  (61, .iload_n 1, 1, (0, 0, 0, .null)),
  (62, .invokevirtual 104, 3, (47, 1, 550, .ref 6)),
  (65, .ireturn, 1, (0, 0, 0, .null)),
  (66, .aload_n 0, 1, (0, 0, 0, .null)),
  (67, .bipush 29, 2, (0, 0, 0, .int 29)),
  (69, .invokevirtual 91, 3, (62, 1, 441, .ref 6)),
  (72, .ifCond .eq 23, 3, (95, 0, 0, .null)),
  (75, .aload_n 0, 1, (0, 0, 0, .null)),
  (76, .iload_n 1, 1, (0, 0, 0, .null)),
  (77, .invokevirtual 107, 3, (54, 1, 486, .ref 6)),
  (80, .ifCond .eq 15, 3, (95, 0, 0, .null)),
  (83, .aload_n 0, 1, (0, 0, 0, .null)),
  (84, .iload_n 1, 1, (0, 0, 0, .null)),
  (85, .invokevirtual 110, 3, (48, 1, 466, .ref 6)),
  (88, .ifCond .eq 7, 3, (95, 0, 0, .null)),
  (91, .iconst 1, 1, (0, 0, 0, .int 1)),
  (92, .goto 4, 3, (96, 0, 0, .null)),
  (95, .iconst 0, 1, (0, 0, 0, .int 0)),
  (96, .ireturn, 1, (0, 0, 0, .null)),
  (97, .aload_n 0, 1, (0, 0, 0, .null)),
  (98, .bipush 20, 2, (0, 0, 0, .int 20)),
  (100, .invokevirtual 91, 3, (62, 1, 441, .ref 6)),
  (103, .ifCond .eq 40, 3, (143, 0, 0, .null)),
  (106, .aload_n 0, 1, (0, 0, 0, .null)),
  (107, .iconst 2, 1, (0, 0, 0, .int 2)),
  (108, .invokevirtual 113, 3, (64, 1, 449, .ref 6)),
  (111, .ifCond .eq 32, 3, (143, 0, 0, .null)),
  (114, .aload_n 0, 1, (0, 0, 0, .null)),
  (115, .bipush 24, 2, (0, 0, 0, .int 24)),
  (117, .invokevirtual 91, 3, (62, 1, 441, .ref 6)),
  (120, .ifCond .eq 23, 3, (143, 0, 0, .null)),
  (123, .aload_n 0, 1, (0, 0, 0, .null)),
  (124, .iload_n 1, 1, (0, 0, 0, .null)),
  (125, .invokevirtual 107, 3, (54, 1, 486, .ref 6)),
  (128, .ifCond .eq 15, 3, (143, 0, 0, .null)),
  (131, .aload_n 0, 1, (0, 0, 0, .null)),
  (132, .iload_n 1, 1, (0, 0, 0, .null)),
  (133, .invokevirtual 110, 3, (48, 1, 466, .ref 6)),
  (136, .ifCond .eq 7, 3, (143, 0, 0, .null)),
  (139, .iconst 1, 1, (0, 0, 0, .int 1)),
  (140, .goto 4, 3, (144, 0, 0, .null)),
  (143, .iconst 0, 1, (0, 0, 0, .int 0)),
  (144, .ireturn, 1, (0, 0, 0, .null))]
abbrev md_44 : am_M := (⟨"BindingServer$Parser", "compound", "(I)Z"⟩, prog_6_method_6_code, 2, some .boolean, tb_44)
def tb_45 : List am_I := [(0, .aload_n 0, 1, (0, 0, 0, .null)),
  (1, .bipush 17, 2, (0, 0, 0, .int 17)),
  (3, .invokevirtual 91, 3, (62, 1, 441, .ref 6)),
  (6, .ifCond .eq 20, 3, (26, 0, 0, .null)),
  (9, .aload_n 0, 1, (0, 0, 0, .null)),
  (10, .iconst 2, 1, (0, 0, 0, .int 2)),
  (11, .invokevirtual 113, 3, (64, 1, 449, .ref 6)),
  (14, .ifCond .eq 12, 3, (26, 0, 0, .null)),
  (17, .aload_n 0, 1, (0, 0, 0, .null)),
  (18, .bipush 40, 2, (0, 0, 0, .int 40)),
  (20, .invokevirtual 91, 3, (62, 1, 441, .ref 6)),
  (23, .ifCond .ne 5, 3, (28, 0, 0, .null)),
  (26, .iconst 0, 1, (0, 0, 0, .int 0)),
  (27, .ireturn, 1, (0, 0, 0, .null)),
  (28, .aload_n 0, 1, (0, 0, 0, .null)),
  (29, .getfield 54, 3, (6, 8, 175, .null)),
  (32, .istore_n 2, 1, (0, 0, 0, .null)),
  (33, .aload_n 0, 1, (0, 0, 0, .null)),
  (34, .aload_n 0, 1, (0, 0, 0, .null)),
  (35, .getfield 15, 3, (6, 1, 168, .null)),
  (38, .iconst 1, 1, (0, 0, 0, .int 1)),
  (39, .iload_n 2, 1, (0, 0, 0, .null)),
  (40, .invokevirtual 116, 3, (70, 2, 457, .ref 4)),
  (43, .putfield 54, 3, (6, 8, 175, .null)),
  (46, .aload_n 0, 1, (0, 0, 0, .null)),
  (47, .invokevirtual 120, 3, (52, 0, 458, .ref 6)),
  (50, .ifCond .eq 24, 3, (74, 0, 0, .null)),
  (53, .aload_n 0, 1, (0, 0, 0, .null)),
  (54, .bipush 41, 2, (0, 0, 0, .int 41)),
  (56, .invokevirtual 91, 3, (62, 1, 441, .ref 6)),
  (59, .ifCond .eq 15, 3, (74, 0, 0, .null)),
  (62, .aload_n 0, 1, (0, 0, 0, .null)),
  (63, .iload_n 1, 1, (0, 0, 0, .null)),
  (64, .invokevirtual 110, 3, (48, 1, 466, .ref 6)),
  (67, .ifCond .eq 7, 3, (74, 0, 0, .null)),
  (70, .iconst 1, 1, (0, 0, 0, .int 1)),
  (71, .goto 4, 3, (75, 0, 0, .null)),
  (74, .iconst 0, 1, (0, 0, 0, .int 0)),
  (75, .istore_n 3, 1, (0, 0, 0, .null)),
  (76, .aload_n 0, 1, (0, 0, 0, .null)),
  (77, .iload_n 2, 1, (0, 0, 0, .null)),
  (78, .putfield 54, 3, (6, 8, 175, .null)),
  (81, .iload_n 3, 1, (0, 0, 0, .null)),
  (82, .ireturn, 1, (0, 0, 0, .null))]
abbrev md_45 : am_M := (⟨"BindingServer$Parser", "function", "(I)Z"⟩, prog_6_method_7_code, 4, some .boolean, tb_45)
def tb_46 : List am_I := [(0, .aload_n 0, 1, (0, 0, 0, .null)),
  (1, .bipush 16, 2, (0, 0, 0, .int 16)),
  (3, .invokevirtual 91, 3, (62, 1, 441, .ref 6)),
  (6, .ifCond .eq 11, 3, (17, 0, 0, .null)),
  (9, .aload_n 0, 1, (0, 0, 0, .null)),
  (10, .iconst 2, 1, (0, 0, 0, .int 2)),
  (11, .invokevirtual 113, 3, (64, 1, 449, .ref 6)),
  (14, .ifCond .ne 5, 3, (19, 0, 0, .null)),
  (17, .iconst 0, 1, (0, 0, 0, .int 0)),
  (18, .ireturn, 1, (0, 0, 0, .null)),
  (19, .aload_n 0, 1, (0, 0, 0, .null)),
  (20, .getfield 54, 3, (6, 8, 175, .null)),
  (23, .istore_n 2, 1, (0, 0, 0, .null)),
  (24, .aload_n 0, 1, (0, 0, 0, .null)),
  (25, .aload_n 0, 1, (0, 0, 0, .null)),
  (26, .getfield 15, 3, (6, 1, 168, .null)),
  (29, .iconst 2, 1, (0, 0, 0, .int 2)),
  (30, .iload_n 2, 1, (0, 0, 0, .null)),
  (31, .invokevirtual 116, 3, (70, 2, 457, .ref 4)),
  (34, .putfield 54, 3, (6, 8, 175, .null)),
  (37, .aload_n 0, 1, (0, 0, 0, .null)),
  (38, .iload_n 1, 1, (0, 0, 0, .null)),
  (39, .invokevirtual 110, 3, (48, 1, 466, .ref 6)),
  (42, .istore_n 3, 1, (0, 0, 0, .null)),
  (43, .aload_n 0, 1, (0, 0, 0, .null)),
  (44, .iload_n 2, 1, (0, 0, 0, .null)),
  (45, .putfield 54, 3, (6, 8, 175, .null)),
  (48, .iload_n 3, 1, (0, 0, 0, .null)),
  (49, .ireturn, 1, (0, 0, 0, .null))]
abbrev md_46 : am_M := (⟨"BindingServer$Parser", "classBlock", "(I)Z"⟩, prog_6_method_8_code, 4, some .boolean, tb_46)
def tb_47 : List am_I := [(0, .aload_n 0, 1, (0, 0, 0, .null)),
  (1, .bipush 22, 2, (0, 0, 0, .int 22)),
  (3, .invokevirtual 91, 3, (62, 1, 441, .ref 6)),
  (6, .ifCond .eq 19, 3, (25, 0, 0, .null)),
  (9, .aload_n 0, 1, (0, 0, 0, .null)),
  (10, .iload_n 1, 1, (0, 0, 0, .null)),
  (11, .invokevirtual 107, 3, (54, 1, 486, .ref 6)),
  (14, .ifCond .eq 11, 3, (25, 0, 0, .null)),
  (17, .aload_n 0, 1, (0, 0, 0, .null)),
  (18, .iload_n 1, 1, (0, 0, 0, .null)),
  (19, .invokevirtual 110, 3, (48, 1, 466, .ref 6)),
  (22, .ifCond .ne 5, 3, (27, 0, 0, .null)),
  (25, .iconst 0, 1, (0, 0, 0, .int 0)),
  (26, .ireturn, 1, (0, 0, 0, .null)),
  (27, .aload_n 0, 1, (0, 0, 0, .null)),
  (28, .getfield 36, 3, (6, 5, 172, .null)),
  (31, .bipush 19, 2, (0, 0, 0, .int 19)),
  (33, .if_icmp .ne 20, 3, (53, 0, 0, .null)),
  (36, .aload_n 0, 1, (0, 0, 0, .null)),
  (37, .bipush 19, 2, (0, 0, 0, .int 19)),
  (39, .invokevirtual 91, 3, (62, 1, 441, .ref 6)),
  (42, .ifCond .eq 15, 3, (57, 0, 0, .null)),
  (45, .aload_n 0, 1, (0, 0, 0, .null)),
  (46, .iload_n 1, 1, (0, 0, 0, .null)),
  (47, .invokevirtual 110, 3, (48, 1, 466, .ref 6)),
  (50, .ifCond .eq 7, 3, (57, 0, 0, .null)),
  (53, .iconst 1, 1, (0, 0, 0, .int 1)),
  (54, .goto 4, 3, (58, 0, 0, .null)),
  (57, .iconst 0, 1, (0, 0, 0, .int 0)),
  (58, .ireturn, 1, (0, 0, 0, .null))]
abbrev md_47 : am_M := (⟨"BindingServer$Parser", "condition", "(I)Z"⟩, prog_6_method_9_code, 2, some .boolean, tb_47)
def tb_48 : List am_I := [(0, .aload_n 0, 1, (0, 0, 0, .null)),
  (1, .bipush 58, 2, (0, 0, 0, .int 58)),
  (3, .iload_n 1, 1, (0, 0, 0, .null)),
  (4, .invokevirtual 123, 3, (63, 2, 470, .ref 6)),
  (7, .ifCond .ne 5, 3, (12, 0, 0, .null)),
  (10, .iconst 0, 1, (0, 0, 0, .int 0)),
  (11, .ireturn, 1, (0, 0, 0, .null)),
  (12, .aload_n 0, 1, (0, 0, 0, .null)),
  (13, .getfield 36, 3, (6, 5, 172, .null)),
  (16, .iconst 4, 1, (0, 0, 0, .int 4)),
  (17, .if_icmp .eq 27, 3, (44, 0, 0, .null)),
  (20, .aload_n 0, 1, (0, 0, 0, .null)),
  (21, .iload_n 1, 1, (0, 0, 0, .null)),
  (22, .iconst 1, 1, (0, 0, 0, .int 1)),
  (23, .iadd, 1, (0, 0, 0, .null)),
  (24, .invokevirtual 88, 3, (50, 1, 474, .ref 6)),
  (27, .ifCond .eq 15, 3, (42, 0, 0, .null)),
  (30, .aload_n 0, 1, (0, 0, 0, .null)),
  (31, .iconst 4, 1, (0, 0, 0, .int 4)),
  (32, .invokevirtual 91, 3, (62, 1, 441, .ref 6)),
  (35, .ifCond .eq 7, 3, (42, 0, 0, .null)),
  (38, .iconst 1, 1, (0, 0, 0, .int 1)),
  (39, .goto 4, 3, (43, 0, 0, .null)),
  (42, .iconst 0, 1, (0, 0, 0, .int 0)),
  (43, .ireturn, 1, (0, 0, 0, .null)),
  (44, .aload_n 0, 1, (0, 0, 0, .null)),
  (45, .iconst 4, 1, (0, 0, 0, .int 4)),
  (46, .invokevirtual 91, 3, (62, 1, 441, .ref 6)),
  (49, .ifCond .eq 25, 3, (74, 0, 0, .null)),
  (52, .aload_n 0, 1, (0, 0, 0, .null)),
  (53, .iconst 5, 1, (0, 0, 0, .int 5)),
  (54, .invokevirtual 91, 3, (62, 1, 441, .ref 6)),
  (57, .ifCond .eq 17, 3, (74, 0, 0, .null)),
  (60, .aload_n 0, 1, (0, 0, 0, .null)),
  (61, .iload_n 1, 1, (0, 0, 0, .null)),
  (62, .iconst 1, 1, (0, 0, 0, .int 1)),
  (63, .iadd, 1, (0, 0, 0, .null)),
  (64, .invokevirtual 127, 3, (49, 1, 542, .ref 6)),
  (67, .ifCond .eq 7, 3, (74, 0, 0, .null)),
  (70, .iconst 1, 1, (0, 0, 0, .int 1)),
  (71, .goto 4, 3, (75, 0, 0, .null)),
  (74, .iconst 0, 1, (0, 0, 0, .int 0)),
  (75, .ireturn, 1, (0, 0, 0, .null))]
abbrev md_48 : am_M := (⟨"BindingServer$Parser", "body", "(I)Z"⟩, prog_6_method_10_code, 2, some .boolean, tb_48)
def tb_49 : List am_I := [(0, .aload_n 0, 1, (0, 0, 0, .null)),
  (1, .iload_n 1, 1, (0, 0, 0, .null)),
  (2, .invokevirtual 39, 3, (42, 1, 425, .ref 6)),
  (5, .istore_n 2, 1, (0, 0, 0, .null)),
  (6, .iconst 0, 1, (0, 0, 0, .int 0)),
  (7, .istore_n 3, 1, (0, 0, 0, .null)),
  (8, .iload_n 3, 1, (0, 0, 0, .null)),
  (9, .aload_n 0, 1, (0, 0, 0, .null)),
  (10, .getfield 9, 3, (6, 0, 167, .null)),
  (13, .getfield 30, 3, (2, 5, 54, .null)),
  (16, .if_icmp .ge 28, 3, (44, 0, 0, .null)),
  (19, .iload_n 2, 1, (0, 0, 0, .null)),
  (20, .ifCond .eq 24, 3, (44, 0, 0, .null)),
  (23, .aload_n 0, 1, (0, 0, 0, .null)),
  (24, .getfield 36, 3, (6, 5, 172, .null)),
  (27, .bipush 6, 2, (0, 0, 0, .int 6)),
  (29, .if_icmp .eq 15, 3, (44, 0, 0, .null)),
  (32, .aload_n 0, 1, (0, 0, 0, .null)),
  (33, .iload_n 1, 1, (0, 0, 0, .null)),
  (34, .invokevirtual 39, 3, (42, 1, 425, .ref 6)),
  (37, .istore_n 2, 1, (0, 0, 0, .null)),
  (38, .iinc 3 1, 3, (0, 0, 0, .null)),
  (41, .goto (-33), 3, (8, 0, 0, .null)),
  (44, .iload_n 2, 1, (0, 0, 0, .null)),
  (45, .ifCond .eq 16, 3, (61, 0, 0, .null)),
  (48, .aload_n 0, 1, (0, 0, 0, .null)),
  (49, .bipush 6, 2, (0, 0, 0, .int 6)),
  (51, .invokevirtual 91, 3, (62, 1, 441, .ref 6)),
  (54, .ifCond .eq 7, 3, (61, 0, 0, .null)),
  (57, .iconst 1, 1, (0, 0, 0, .int 1)),
  (58, .goto 4, 3, (62, 0, 0, .null)),
  (61, .iconst 0, 1, (0, 0, 0, .int 0)),
  (62, .ireturn, 1, (0, 0, 0, .null))]
abbrev md_49 : am_M := (⟨"BindingServer$Parser", "block", "(I)Z"⟩, prog_6_method_11_code, 4, some .boolean, tb_49)
def tb_50 : List am_I := [(0, .aload_n 0, 1, (0, 0, 0, .null)),
  (1, .getfield 36, 3, (6, 5, 172, .null)),
  (4, .tableswitch 195 18 28 #[114, 195, 195, 67, 195, 137, 195, 195, 90, 60, 160], 60, (0, 0, 0, .null)),
  (64, .aload_n 0, 1, (0, 0, 0, .null)),
  (65, .bipush 27, 2, (0, 0, 0, .int 27)),
  (67, .invokevirtual 91, 3, (62, 1, 441, .ref 6)),
  (70, .ireturn, 1, (0, 0, 0, .null)),
  (71, .aload_n 0, 1, (0, 0, 0, .null)),
  (72, .bipush 21, 2, (0, 0, 0, .int 21)),
  (74, .invokevirtual 91, 3, (62, 1, 441, .ref 6)),
  (77, .ifCond .eq 15, 3, (92, 0, 0, .null)),
  (80, .aload_n 0, 1, (0, 0, 0, .null)),
  (81, .iconst 4, 1, (0, 0, 0, .int 4)),
  (82, .invokevirtual 130, 3, (53, 1, 462, .ref 6)),
  (85, .ifCond .eq 7, 3, (92, 0, 0, .null)),
  (88, .iconst 1, 1, (0, 0, 0, .int 1)),
  (89, .goto 4, 3, (93, 0, 0, .null)),
  (92, .iconst 0, 1, (0, 0, 0, .int 0)),
  (93, .ireturn, 1, (0, 0, 0, .null)),
  (94, .aload_n 0, 1, (0, 0, 0, .null)),
  (95, .bipush 26, 2, (0, 0, 0, .int 26)),
  (97, .invokevirtual 91, 3, (62, 1, 441, .ref 6)),
  (100, .ifCond .eq 16, 3, (116, 0, 0, .null)),
  (103, .aload_n 0, 1, (0, 0, 0, .null)),
  (104, .bipush 8, 2, (0, 0, 0, .int 8)),
  (106, .invokevirtual 130, 3, (53, 1, 462, .ref 6)),
  (109, .ifCond .eq 7, 3, (116, 0, 0, .null)),
  (112, .iconst 1, 1, (0, 0, 0, .int 1)),
  (113, .goto 4, 3, (117, 0, 0, .null)),
  (116, .iconst 0, 1, (0, 0, 0, .int 0)),
  (117, .ireturn, 1, (0, 0, 0, .null)),
  (118, .aload_n 0, 1, (0, 0, 0, .null)),
  (119, .bipush 18, 2, (0, 0, 0, .int 18)),
  (121, .invokevirtual 91, 3, (62, 1, 441, .ref 6)),
  (124, .ifCond .eq 15, 3, (139, 0, 0, .null)),
  (127, .aload_n 0, 1, (0, 0, 0, .null)),
  (128, .iconst 2, 1, (0, 0, 0, .int 2)),
  (129, .invokevirtual 113, 3, (64, 1, 449, .ref 6)),
  (132, .ifCond .eq 7, 3, (139, 0, 0, .null)),
  (135, .iconst 1, 1, (0, 0, 0, .int 1)),
  (136, .goto 4, 3, (140, 0, 0, .null)),
  (139, .iconst 0, 1, (0, 0, 0, .int 0)),
  (140, .ireturn, 1, (0, 0, 0, .null)),
  (141, .aload_n 0, 1, (0, 0, 0, .null)),
  (142, .bipush 23, 2, (0, 0, 0, .int 23)),
  (144, .invokevirtual 91, 3, (62, 1, 441, .ref 6)),
  (147, .ifCond .eq 15, 3, (162, 0, 0, .null)),
  (150, .aload_n 0, 1, (0, 0, 0, .null)),
  (151, .iconst 2, 1, (0, 0, 0, .int 2)),
  (152, .invokevirtual 113, 3, (64, 1, 449, .ref 6)),
  (155, .ifCond .eq 7, 3, (162, 0, 0, .null)),
  (158, .iconst 1, 1, (0, 0, 0, .int 1)),
  (159, .goto 4, 3, (163, 0, 0, .null)),
  (162, .iconst 0, 1, (0, 0, 0, .int 0)),
  (163, .ireturn, 1, (0, 0, 0, .null)),
  (164, .aload_n 0, 1, (0, 0, 0, .null)),
  (165, .invokevirtual 133, 3, (51, 0, 478, .ref 6)),
  (168, .aload_n 0, 1, (0, 0, 0, .null)),
  (169, .bipush 28, 2, (0, 0, 0, .int 28)),
  (171, .invokevirtual 91, 3, (62, 1, 441, .ref 6)),
  (174, .ifCond .eq 23, 3, (197, 0, 0, .null)),
  (177, .aload_n 0, 1, (0, 0, 0, .null)),
  (178, .getfield 36, 3, (6, 5, 172, .null)),
  (181, .iconst 4, 1, (0, 0, 0, .int 4)),
  (182, .if_icmp .eq 11, 3, (193, 0, 0, .null)),
  (185, .aload_n 0, 1, (0, 0, 0, .null)),
  (186, .iload_n 1, 1, (0, 0, 0, .null)),
  (187, .invokevirtual 107, 3, (54, 1, 486, .ref 6)),
  (190, .ifCond .eq 7, 3, (197, 0, 0, .null)),
  (193, .iconst 1, 1, (0, 0, 0, .int 1)),
  (194, .goto 4, 3, (198, 0, 0, .null)),
  (197, .iconst 0, 1, (0, 0, 0, .int 0)),
  (198, .ireturn, 1, (0, 0, 0, .null)),
  (199, .aload_n 0, 1, (0, 0, 0, .null)),
  (200, .bipush 61, 2, (0, 0, 0, .int 61)),
  (202, .invokevirtual 136, 3, (61, 1, 510, .ref 6)),
  (205, .ifCond .eq 34, 3, (239, 0, 0, .null)),
  (208, .aload_n 0, 1, (0, 0, 0, .null)),
  (209, .iconst 2, 1, (0, 0, 0, .int 2)),
  (210, .invokevirtual 113, 3, (64, 1, 449, .ref 6)),
  (213, .ifCond .eq 24, 3, (237, 0, 0, .null)),
  (216, .aload_n 0, 1, (0, 0, 0, .null)),
  (217, .bipush 61, 2, (0, 0, 0, .int 61)),
  (219, .invokevirtual 91, 3, (62, 1, 441, .ref 6)),
  (222, .ifCond .eq 15, 3, (237, 0, 0, .null)),
  (225, .aload_n 0, 1, (0, 0, 0, .null)),
  (226, .iload_n 1, 1, (0, 0, 0, .null)),
  (227, .invokevirtual 107, 3, (54, 1, 486, .ref 6)),
  (230, .ifCond .eq 7, 3, (237, 0, 0, .null)),
  (233, .iconst 1, 1, (0, 0, 0, .int 1)),
  (234, .goto 4, 3, (238, 0, 0, .null)),
  (237, .iconst 0, 1, (0, 0, 0, .int 0)),
  (238, .ireturn, 1, (0, 0, 0, .null)),
  (239, .aload_n 0, 1, (0, 0, 0, .null)),
  (240, .iload_n 1, 1, (0, 0, 0, .null)),
  (241, .invokevirtual 107, 3, (54, 1, 486, .ref 6)),
  (244, .ireturn, 1, (0, 0, 0, .null))]
abbrev md_50 : am_M := (⟨"BindingServer$Parser", "simple", "(I)Z"⟩, prog_6_method_12_code, 2, some .boolean, tb_50)
def tb_51 : List am_I := [(0, .aload_n 0, 1, (0, 0, 0, .null)),
  (1, .getfield 66, 3, (6, 12, 181, .null)),
  (4, .iconst (-1), 1, (0, 0, 0, .int (-1))),
  (5, .if_icmp .ne 26, 3, (31, 0, 0, .null)),
  (8, .aload_n 0, 1, (0, 0, 0, .null)),
  (9, .getfield 15, 3, (6, 1, 168, .null)),
  (12, .aload_n 0, 1, (0, 0, 0, .null)),
  (13, .getfield 54, 3, (6, 8, 175, .null)),
  (16, .invokevirtual 139, 3, (71, 1, 482, .ref 4)),
  (19, .iconst 1, 1, (0, 0, 0, .int 1)),
  (20, .if_icmp .eq 11, 3, (31, 0, 0, .null)),
  (23, .aload_n 0, 1, (0, 0, 0, .null)),
  (24, .aload_n 0, 1, (0, 0, 0, .null)),
  (25, .getfield 78, 3, (6, 6, 173, .null)),
  (28, .putfield 66, 3, (6, 12, 181, .null)),
  (31, .return_, 1, (0, 0, 0, .null))]
abbrev md_51 : am_M := (⟨"BindingServer$Parser", "noteReturn", "()V"⟩, prog_6_method_13_code, 1, none, tb_51)
def tb_52 : List am_I := [(0, .aload_n 0, 1, (0, 0, 0, .null)),
  (1, .getfield 36, 3, (6, 5, 172, .null)),
  (4, .ifCond .ne 12, 3, (16, 0, 0, .null)),
  (7, .aload_n 0, 1, (0, 0, 0, .null)),
  (8, .bipush 18, 2, (0, 0, 0, .int 18)),
  (10, .invokevirtual 130, 3, (53, 1, 462, .ref 6)),
  (13, .ifCond .eq 7, 3, (20, 0, 0, .null)),
  (16, .iconst 1, 1, (0, 0, 0, .int 1)),
  (17, .goto 4, 3, (21, 0, 0, .null)),
  (20, .iconst 0, 1, (0, 0, 0, .int 0)),
  (21, .ireturn, 1, (0, 0, 0, .null))]
abbrev md_52 : am_M := (⟨"BindingServer$Parser", "parameters", "()Z"⟩, prog_6_method_14_code, 1, some .boolean, tb_52)
def tb_53 : List am_I := [(0, .aload_n 0, 1, (0, 0, 0, .null)),
  (1, .iload_n 1, 1, (0, 0, 0, .null)),
  (2, .invokevirtual 113, 3, (64, 1, 449, .ref 6)),
  (5, .istore_n 2, 1, (0, 0, 0, .null)),
  (6, .iconst 0, 1, (0, 0, 0, .int 0)),
  (7, .istore_n 3, 1, (0, 0, 0, .null)),
  (8, .iload_n 3, 1, (0, 0, 0, .null)),
  (9, .aload_n 0, 1, (0, 0, 0, .null)),
  (10, .getfield 9, 3, (6, 0, 167, .null)),
  (13, .getfield 30, 3, (2, 5, 54, .null)),
  (16, .if_icmp .ge 45, 3, (61, 0, 0, .null)),
  (19, .iload_n 2, 1, (0, 0, 0, .null)),
  (20, .ifCond .eq 41, 3, (61, 0, 0, .null)),
  (23, .aload_n 0, 1, (0, 0, 0, .null)),
  (24, .getfield 36, 3, (6, 5, 172, .null)),
  (27, .bipush 44, 2, (0, 0, 0, .int 44)),
  (29, .if_icmp .ne 32, 3, (61, 0, 0, .null)),
  (32, .aload_n 0, 1, (0, 0, 0, .null)),
  (33, .bipush 44, 2, (0, 0, 0, .int 44)),
  (35, .invokevirtual 91, 3, (62, 1, 441, .ref 6)),
  (38, .ifCond .eq 15, 3, (53, 0, 0, .null)),
  (41, .aload_n 0, 1, (0, 0, 0, .null)),
  (42, .iload_n 1, 1, (0, 0, 0, .null)),
  (43, .invokevirtual 113, 3, (64, 1, 449, .ref 6)),
  (46, .ifCond .eq 7, 3, (53, 0, 0, .null)),
  (49, .iconst 1, 1, (0, 0, 0, .int 1)),
  (50, .goto 4, 3, (54, 0, 0, .null)),
  (53, .iconst 0, 1, (0, 0, 0, .int 0)),
  (54, .istore_n 2, 1, (0, 0, 0, .null)),
  (55, .iinc 3 1, 3, (0, 0, 0, .null)),
  (58, .goto (-50), 3, (8, 0, 0, .null)),
  (61, .iload_n 2, 1, (0, 0, 0, .null)),
  (62, .ireturn, 1, (0, 0, 0, .null))]
abbrev md_53 : am_M := (⟨"BindingServer$Parser", "nameRow", "(I)Z"⟩, prog_6_method_15_code, 4, some .boolean, tb_53)
def tb_54 : List am_I := [(0, .aload_n 0, 1, (0, 0, 0, .null)),
  (1, .getfield 36, 3, (6, 5, 172, .null)),
  (4, .bipush 25, 2, (0, 0, 0, .int 25)),
  (6, .if_icmp .ne 9, 3, (15, 0, 0, .null)),
  (9, .aload_n 0, 1, (0, 0, 0, .null)),
  (10, .iload_n 1, 1, (0, 0, 0, .null)),
  (11, .invokevirtual 143, 3, (55, 1, 490, .ref 6)),
  (14, .ireturn, 1, (0, 0, 0, .null)),
  (15, .aload_n 0, 1, (0, 0, 0, .null)),
  (16, .getfield 78, 3, (6, 6, 173, .null)),
  (19, .istore_n 2, 1, (0, 0, 0, .null)),
  (20, .aload_n 0, 1, (0, 0, 0, .null)),
  (21, .iload_n 1, 1, (0, 0, 0, .null)),
  (22, .invokevirtual 146, 3, (56, 1, 498, .ref 6)),
  (25, .istore_n 3, 1, (0, 0, 0, .null)),
  (26, .iconst 0, 1, (0, 0, 0, .int 0)),
  (27, .istore 4, 2, (0, 0, 0, .null)),
  (29, .iload 4, 2, (0, 0, 0, .null)),
  (31, .aload_n 0, 1, (0, 0, 0, .null)),
  (32, .getfield 9, 3, (6, 0, 167, .null)),
  (35, .getfield 30, 3, (2, 5, 54, .null)),
  (38, .if_icmp .ge 57, 3, (95, 0, 0, .null)),
  (41, .iload_n 3, 1, (0, 0, 0, .null)),
  (42, .ifCond .eq 53, 3, (95, 0, 0, .null)),
  (45, .aload_n 0, 1, (0, 0, 0, .null)),
  (46, .getfield 36, 3, (6, 5, 172, .null)),
  (49, .bipush 43, 2, (0, 0, 0, .int 43)),
  (51, .if_icmp .ne 44, 3, (95, 0, 0, .null)),
  (54, .aload_n 0, 1, (0, 0, 0, .null)),
  (55, .bipush 43, 2, (0, 0, 0, .int 43)),
  (57, .invokevirtual 91, 3, (62, 1, 441, .ref 6)),
  (60, .ifCond .eq 15, 3, (75, 0, 0, .null)),
  (63, .aload_n 0, 1, (0, 0, 0, .null)),
  (64, .iload_n 1, 1, (0, 0, 0, .null)),
  (65, .invokevirtual 146, 3, (56, 1, 498, .ref 6)),
  (68, .ifCond .eq 7, 3, (75, 0, 0, .null)),
  (71, .iconst 1, 1, (0, 0, 0, .int 1)),
  (72, .goto 4, 3, (76, 0, 0, .null)),
  (75, .iconst 0, 1, (0, 0, 0, .int 0)),
  (76, .istore_n 3, 1, (0, 0, 0, .null)),
  (77, .aload_n 0, 1, (0, 0, 0, .null)),
  (78, .getfield 23, 3, (6, 3, 170, .null)),
  (81, .iload_n 2, 1, (0, 0, 0, .null)),
  (82, .aload_n 0, 1, (0, 0, 0, .null)),
  (83, .getfield 72, 3, (6, 7, 174, .null)),
  (86, .invokevirtual 94, 3, (24, 2, 494, .ref 3)),
  (89, .iinc 4 1, 3, (0, 0, 0, .null)),
  (92, .goto (-63), 3, (29, 0, 0, .null)),
  (95, .iload_n 3, 1, (0, 0, 0, .null)),
  (96, .ireturn, 1, (0, 0, 0, .null))]
abbrev md_54 : am_M := (⟨"BindingServer$Parser", "expression", "(I)Z"⟩, prog_6_method_16_code, 5, some .boolean, tb_54)
def tb_55 : List am_I := [(0, .aload_n 0, 1, (0, 0, 0, .null)),
  (1, .getfield 78, 3, (6, 6, 173, .null)),
  (4, .istore_n 2, 1, (0, 0, 0, .null)),
  (5, .aload_n 0, 1, (0, 0, 0, .null)),
  (6, .bipush 25, 2, (0, 0, 0, .int 25)),
  (8, .iload_n 1, 1, (0, 0, 0, .null)),
  (9, .invokevirtual 123, 3, (63, 2, 470, .ref 6)),
  (12, .ifCond .ne 5, 3, (17, 0, 0, .null)),
  (15, .iconst 0, 1, (0, 0, 0, .int 0)),
  (16, .ireturn, 1, (0, 0, 0, .null)),
  (17, .aload_n 0, 1, (0, 0, 0, .null)),
  (18, .getfield 54, 3, (6, 8, 175, .null)),
  (21, .istore_n 3, 1, (0, 0, 0, .null)),
  (22, .aload_n 0, 1, (0, 0, 0, .null)),
  (23, .aload_n 0, 1, (0, 0, 0, .null)),
  (24, .getfield 15, 3, (6, 1, 168, .null)),
  (27, .iconst 3, 1, (0, 0, 0, .int 3)),
  (28, .iload_n 3, 1, (0, 0, 0, .null)),
  (29, .invokevirtual 116, 3, (70, 2, 457, .ref 4)),
  (32, .putfield 54, 3, (6, 8, 175, .null)),
  (35, .aload_n 0, 1, (0, 0, 0, .null)),
  (36, .invokevirtual 120, 3, (52, 0, 458, .ref 6)),
  (39, .ifCond .eq 26, 3, (65, 0, 0, .null)),
  (42, .aload_n 0, 1, (0, 0, 0, .null)),
  (43, .bipush 58, 2, (0, 0, 0, .int 58)),
  (45, .invokevirtual 91, 3, (62, 1, 441, .ref 6)),
  (48, .ifCond .eq 17, 3, (65, 0, 0, .null)),
  (51, .aload_n 0, 1, (0, 0, 0, .null)),
  (52, .iload_n 1, 1, (0, 0, 0, .null)),
  (53, .iconst 1, 1, (0, 0, 0, .int 1)),
  (54, .iadd, 1, (0, 0, 0, .null)),
  (55, .invokevirtual 107, 3, (54, 1, 486, .ref 6)),
  (58, .ifCond .eq 7, 3, (65, 0, 0, .null)),
  (61, .iconst 1, 1, (0, 0, 0, .int 1)),
  (62, .goto 4, 3, (66, 0, 0, .null)),
  (65, .iconst 0, 1, (0, 0, 0, .int 0)),
  (66, .istore 4, 2, (0, 0, 0, .null)),
  (68, .aload_n 0, 1, (0, 0, 0, .null)),
  (69, .iload_n 3, 1, (0, 0, 0, .null)),
  (70, .putfield 54, 3, (6, 8, 175, .null)),
  (73, .aload_n 0, 1, (0, 0, 0, .null)),
  (74, .getfield 23, 3, (6, 3, 170, .null)),
  (77, .iload_n 2, 1, (0, 0, 0, .null)),
  (78, .aload_n 0, 1, (0, 0, 0, .null)),
  (79, .getfield 72, 3, (6, 7, 174, .null)),
  (82, .invokevirtual 94, 3, (24, 2, 494, .ref 3)),
  (85, .iload 4, 2, (0, 0, 0, .null)),
  (87, .ireturn, 1, (0, 0, 0, .null))]
abbrev md_55 : am_M := (⟨"BindingServer$Parser", "lambda", "(I)Z"⟩, prog_6_method_17_code, 5, some .boolean, tb_55)
def tb_56 : List am_I := [(0, .aload_n 0, 1, (0, 0, 0, .null)),
  (1, .getfield 78, 3, (6, 6, 173, .null)),
  (4, .istore_n 2, 1, (0, 0, 0, .null)),
  (5, .aload_n 0, 1, (0, 0, 0, .null)),
  (6, .iload_n 1, 1, (0, 0, 0, .null)),
  (7, .invokevirtual 149, 3, (57, 1, 502, .ref 6)),
  (10, .istore_n 3, 1, (0, 0, 0, .null)),
  (11, .aload_n 0, 1, (0, 0, 0, .null)),
  (12, .getfield 23, 3, (6, 3, 170, .null)),
  (15, .iload_n 2, 1, (0, 0, 0, .null)),
  (16, .aload_n 0, 1, (0, 0, 0, .null)),
  (17, .getfield 72, 3, (6, 7, 174, .null)),
  (20, .invokevirtual 94, 3, (24, 2, 494, .ref 3)),
  (23, .iconst 0, 1, (0, 0, 0, .int 0)),
  (24, .istore 4, 2, (0, 0, 0, .null)),
  (26, .iload 4, 2, (0, 0, 0, .null)),
  (28, .aload_n 0, 1, (0, 0, 0, .null)),
  (29, .getfield 9, 3, (6, 0, 167, .null)),
  (32, .getfield 30, 3, (2, 5, 54, .null)),
  (35, .if_icmp .ge 40, 3, (75, 0, 0, .null)),
  (38, .iload_n 3, 1, (0, 0, 0, .null)),
  (39, .ifCond .eq 36, 3, (75, 0, 0, .null)),
  (42, .aload_n 0, 1, (0, 0, 0, .null)),
  (43, .getfield 36, 3, (6, 5, 172, .null)),
  (46, .bipush 40, 2, (0, 0, 0, .int 40)),
  (48, .if_icmp .ne 27, 3, (75, 0, 0, .null)),
  (51, .aload_n 0, 1, (0, 0, 0, .null)),
  (52, .iload_n 1, 1, (0, 0, 0, .null)),
  (53, .invokevirtual 152, 3, (58, 1, 538, .ref 6)),
  (56, .istore_n 3, 1, (0, 0, 0, .null)),
  (57, .aload_n 0, 1, (0, 0, 0, .null)),
  (58, .getfield 23, 3, (6, 3, 170, .null)),
  (61, .iload_n 2, 1, (0, 0, 0, .null)),
  (62, .aload_n 0, 1, (0, 0, 0, .null)),
  (63, .getfield 72, 3, (6, 7, 174, .null)),
  (66, .invokevirtual 94, 3, (24, 2, 494, .ref 3)),
  (69, .iinc 4 1, 3, (0, 0, 0, .null)),
  (72, .goto (-46), 3, (26, 0, 0, .null)),
  (75, .iload_n 3, 1, (0, 0, 0, .null)),
  (76, .ireturn, 1, (0, 0, 0, .null))]
abbrev md_56 : am_M := (⟨"BindingServer$Parser", "item", "(I)Z"⟩, prog_6_method_18_code, 5, some .boolean, tb_56)
def tb_57 : List am_I := [(0, .aload_n 0, 1, (0, 0, 0, .null)),
  (1, .getfield 36, 3, (6, 5, 172, .null)),
  (4, .lookupswitch 119 #[(0, 44), (1, 50), (40, 56), (91, 62)], 44, (0, 0, 0, .null)),
  (48, .aload_n 0, 1, (0, 0, 0, .null)),
  (49, .iconst 1, 1, (0, 0, 0, .int 1)),
  (50, .invokevirtual 113, 3, (64, 1, 449, .ref 6)),
  (53, .ireturn, 1, (0, 0, 0, .null)),
  (54, .aload_n 0, 1, (0, 0, 0, .null)),
  (55, .iconst 1, 1, (0, 0, 0, .int 1)),
  (56, .invokevirtual 91, 3, (62, 1, 441, .ref 6)),
  (59, .ireturn, 1, (0, 0, 0, .null)),
  (60, .aload_n 0, 1, (0, 0, 0, .null)),
  (61, .iload_n 1, 1, (0, 0, 0, .null)),
  (62, .invokevirtual 155, 3, (59, 1, 506, .ref 6)),
  (65, .ireturn, 1, (0, 0, 0, .null)),
  (66, .aload_n 0, 1, (0, 0, 0, .null)),
  (67, .getfield 9, 3, (6, 0, 167, .null)),
  (70, .aload_n 0, 1, (0, 0, 0, .null)),
  (71, .getfield 69, 3, (6, 4, 171, .null)),
  (74, .invokevirtual 158, 3, (107, 1, 526, .ref 2)),
  (77, .ifCond .eq 11, 3, (88, 0, 0, .null)),
  (80, .aload_n 0, 1, (0, 0, 0, .null)),
  (81, .iload_n 1, 1, (0, 0, 0, .null)),
  (82, .invokevirtual 161, 3, (60, 1, 530, .ref 6)),
  (85, .goto 37, 3, (122, 0, 0, .null)),
  (88, .aload_n 0, 1, (0, 0, 0, .null)),
  (89, .bipush 91, 2, (0, 0, 0, .int 91)),
  (91, .iload_n 1, 1, (0, 0, 0, .null)),
  (92, .invokevirtual 123, 3, (63, 2, 470, .ref 6)),
  (95, .ifCond .eq 26, 3, (121, 0, 0, .null)),
  (98, .aload_n 0, 1, (0, 0, 0, .null)),
  (99, .iload_n 1, 1, (0, 0, 0, .null)),
  (100, .iconst 1, 1, (0, 0, 0, .int 1)),
  (101, .iadd, 1, (0, 0, 0, .null)),
  (102, .invokevirtual 107, 3, (54, 1, 486, .ref 6)),
  (105, .ifCond .eq 16, 3, (121, 0, 0, .null)),
  (108, .aload_n 0, 1, (0, 0, 0, .null)),
  (109, .bipush 93, 2, (0, 0, 0, .int 93)),
  (111, .invokevirtual 91, 3, (62, 1, 441, .ref 6)),
  (114, .ifCond .eq 7, 3, (121, 0, 0, .null)),
  (117, .iconst 1, 1, (0, 0, 0, .int 1)),
  (118, .goto 4, 3, (122, 0, 0, .null)),
  (121, .iconst 0, 1, (0, 0, 0, .int 0)),
  (122, .ireturn, 1, (0, 0, 0, .null)),
  (123, .aload_n 0, 1, (0, 0, 0, .null)),
  (124, .bipush 20, 2, (0, 0, 0, .int 20)),
  (126, .invokevirtual 164, 3, (67, 1, 445, .ref 6)),
  (129, .ireturn, 1, (0, 0, 0, .null))]
abbrev md_57 : am_M := (⟨"BindingServer$Parser", "core", "(I)Z"⟩, prog_6_method_19_code, 2, some .boolean, tb_57)
def tb_58 : List am_I := [(0, .aload_n 0, 1, (0, 0, 0, .null)),
  (1, .bipush 40, 2, (0, 0, 0, .int 40)),
  (3, .iload_n 1, 1, (0, 0, 0, .null)),
  (4, .invokevirtual 123, 3, (63, 2, 470, .ref 6)),
  (7, .ifCond .ne 5, 3, (12, 0, 0, .null)),
  (10, .iconst 0, 1, (0, 0, 0, .int 0)),
  (11, .ireturn, 1, (0, 0, 0, .null)),
  (12, .aload_n 0, 1, (0, 0, 0, .null)),
  (13, .getfield 36, 3, (6, 5, 172, .null)),
  (16, .bipush 41, 2, (0, 0, 0, .int 41)),
  (18, .if_icmp .ne 10, 3, (28, 0, 0, .null)),
  (21, .aload_n 0, 1, (0, 0, 0, .null)),
  (22, .bipush 41, 2, (0, 0, 0, .int 41)),
  (24, .invokevirtual 91, 3, (62, 1, 441, .ref 6)),
  (27, .ireturn, 1, (0, 0, 0, .null)),
  (28, .aload_n 0, 1, (0, 0, 0, .null)),
  (29, .iload_n 1, 1, (0, 0, 0, .null)),
  (30, .iconst 1, 1, (0, 0, 0, .int 1)),
  (31, .iadd, 1, (0, 0, 0, .null)),
  (32, .invokevirtual 107, 3, (54, 1, 486, .ref 6)),
  (35, .istore_n 2, 1, (0, 0, 0, .null)),
  (36, .iconst 0, 1, (0, 0, 0, .int 0)),
  (37, .istore_n 3, 1, (0, 0, 0, .null)),
  (38, .iload_n 3, 1, (0, 0, 0, .null)),
  (39, .aload_n 0, 1, (0, 0, 0, .null)),
  (40, .getfield 9, 3, (6, 0, 167, .null)),
  (43, .getfield 30, 3, (2, 5, 54, .null)),
  (46, .if_icmp .ge 47, 3, (93, 0, 0, .null)),
  (49, .iload_n 2, 1, (0, 0, 0, .null)),
  (50, .ifCond .eq 43, 3, (93, 0, 0, .null)),
  (53, .aload_n 0, 1, (0, 0, 0, .null)),
  (54, .getfield 36, 3, (6, 5, 172, .null)),
  (57, .bipush 44, 2, (0, 0, 0, .int 44)),
  (59, .if_icmp .ne 34, 3, (93, 0, 0, .null)),
  (62, .aload_n 0, 1, (0, 0, 0, .null)),
  (63, .bipush 44, 2, (0, 0, 0, .int 44)),
  (65, .invokevirtual 91, 3, (62, 1, 441, .ref 6)),
  (68, .ifCond .eq 17, 3, (85, 0, 0, .null)),
  (71, .aload_n 0, 1, (0, 0, 0, .null)),
  (72, .iload_n 1, 1, (0, 0, 0, .null)),
  (73, .iconst 1, 1, (0, 0, 0, .int 1)),
  (74, .iadd, 1, (0, 0, 0, .null)),
  (75, .invokevirtual 107, 3, (54, 1, 486, .ref 6)),
  (78, .ifCond .eq 7, 3, (85, 0, 0, .null)),
  (81, .iconst 1, 1, (0, 0, 0, .int 1)),
  (82, .goto 4, 3, (86, 0, 0, .null)),
  (85, .iconst 0, 1, (0, 0, 0, .int 0)),
  (86, .istore_n 2, 1, (0, 0, 0, .null)),
  (87, .iinc 3 1, 3, (0, 0, 0, .null)),
  (90, .goto (-52), 3, (38, 0, 0, .null)),
  (93, .iload_n 2, 1, (0, 0, 0, .null)),
  (94, .ifCond .eq 16, 3, (110, 0, 0, .null)),
  (97, .aload_n 0, 1, (0, 0, 0, .null)),
  (98, .bipush 41, 2, (0, 0, 0, .int 41)),
  (100, .invokevirtual 91, 3, (62, 1, 441, .ref 6)),
  (103, .ifCond .eq 7, 3, (110, 0, 0, .null)),
  (106, .iconst 1, 1, (0, 0, 0, .int 1)),
  (107, .goto 4, 3, (111, 0, 0, .null)),
  (110, .iconst 0, 1, (0, 0, 0, .int 0)),
  (111, .ireturn, 1, (0, 0, 0, .null))]
abbrev md_58 : am_M := (⟨"BindingServer$Parser", "call", "(I)Z"⟩, prog_6_method_20_code, 4, some .boolean, tb_58)
def tb_59 : List am_I := [(0, .aload_n 0, 1, (0, 0, 0, .null)),
  (1, .bipush 40, 2, (0, 0, 0, .int 40)),
  (3, .iload_n 1, 1, (0, 0, 0, .null)),
  (4, .invokevirtual 123, 3, (63, 2, 470, .ref 6)),
  (7, .ifCond .ne 5, 3, (12, 0, 0, .null)),
  (10, .iconst 0, 1, (0, 0, 0, .int 0)),
  (11, .ireturn, 1, (0, 0, 0, .null)),
  (12, .aload_n 0, 1, (0, 0, 0, .null)),
  (13, .sipush 128, 3, (0, 0, 0, .int 128)),
  (16, .invokevirtual 136, 3, (61, 1, 510, .ref 6)),
  (19, .ifCond .eq 7, 3, (26, 0, 0, .null)),
  (22, .aload_n 0, 1, (0, 0, 0, .null)),
  (23, .invokevirtual 167, 3, (65, 0, 518, .ref 6)),
  (26, .aload_n 0, 1, (0, 0, 0, .null)),
  (27, .iload_n 1, 1, (0, 0, 0, .null)),
  (28, .iconst 1, 1, (0, 0, 0, .int 1)),
  (29, .iadd, 1, (0, 0, 0, .null)),
  (30, .invokevirtual 107, 3, (54, 1, 486, .ref 6)),
  (33, .ifCond .eq 16, 3, (49, 0, 0, .null)),
  (36, .aload_n 0, 1, (0, 0, 0, .null)),
  (37, .bipush 41, 2, (0, 0, 0, .int 41)),
  (39, .invokevirtual 91, 3, (62, 1, 441, .ref 6)),
  (42, .ifCond .eq 7, 3, (49, 0, 0, .null)),
  (45, .iconst 1, 1, (0, 0, 0, .int 1)),
  (46, .goto 4, 3, (50, 0, 0, .null)),
  (49, .iconst 0, 1, (0, 0, 0, .int 0)),
  (50, .ireturn, 1, (0, 0, 0, .null))]
abbrev md_59 : am_M := (⟨"BindingServer$Parser", "group", "(I)Z"⟩, prog_6_method_21_code, 2, some .boolean, tb_59)
def tb_60 : List am_I := [(0, .aload_n 0, 1, (0, 0, 0, .null)),
  (1, .getfield 54, 3, (6, 8, 175, .null)),
  (4, .istore_n 2, 1, (0, 0, 0, .null)),
  (5, .aload_n 0, 1, (0, 0, 0, .null)),
  (6, .getfield 15, 3, (6, 1, 168, .null)),
  (9, .iconst 4, 1, (0, 0, 0, .int 4)),
  (10, .iload_n 2, 1, (0, 0, 0, .null)),
  (11, .invokevirtual 116, 3, (70, 2, 457, .ref 4)),
  (14, .istore_n 3, 1, (0, 0, 0, .null)),
  (15, .aload_n 0, 1, (0, 0, 0, .null)),
  (16, .iload_n 3, 1, (0, 0, 0, .null)),
  (17, .putfield 54, 3, (6, 8, 175, .null)),
  (20, .aload_n 0, 1, (0, 0, 0, .null)),
  (21, .bipush 91, 2, (0, 0, 0, .int 91)),
  (23, .iload_n 1, 1, (0, 0, 0, .null)),
  (24, .invokevirtual 123, 3, (63, 2, 470, .ref 6)),
  (27, .ifCond .eq 34, 3, (61, 0, 0, .null)),
  (30, .aload_n 0, 1, (0, 0, 0, .null)),
  (31, .iload_n 1, 1, (0, 0, 0, .null)),
  (32, .iconst 1, 1, (0, 0, 0, .int 1)),
  (33, .iadd, 1, (0, 0, 0, .null)),
  (34, .invokevirtual 107, 3, (54, 1, 486, .ref 6)),
  (37, .ifCond .eq 24, 3, (61, 0, 0, .null)),
  (40, .aload_n 0, 1, (0, 0, 0, .null)),
  (41, .bipush 20, 2, (0, 0, 0, .int 20)),
  (43, .invokevirtual 91, 3, (62, 1, 441, .ref 6)),
  (46, .ifCond .eq 15, 3, (61, 0, 0, .null)),
  (49, .aload_n 0, 1, (0, 0, 0, .null)),
  (50, .iconst 2, 1, (0, 0, 0, .int 2)),
  (51, .invokevirtual 113, 3, (64, 1, 449, .ref 6)),
  (54, .ifCond .eq 7, 3, (61, 0, 0, .null)),
  (57, .iconst 1, 1, (0, 0, 0, .int 1)),
  (58, .goto 4, 3, (62, 0, 0, .null)),
  (61, .iconst 0, 1, (0, 0, 0, .int 0)),
  (62, .istore 4, 2, (0, 0, 0, .null)),
  (64, .aload_n 0, 1, (0, 0, 0, .null)),
  (65, .iload_n 2, 1, (0, 0, 0, .null)),
  (66, .putfield 54, 3, (6, 8, 175, .null)),
  (69, .iload 4, 2, (0, 0, 0, .null)),
  (71, .ifCond .ne 5, 3, (76, 0, 0, .null)),
  (74, .iconst 0, 1, (0, 0, 0, .int 0)),
  (75, .ireturn, 1, (0, 0, 0, .null)),
  (76, .aload_n 0, 1, (0, 0, 0, .null)),
  (77, .getfield 15, 3, (6, 1, 168, .null)),
  (80, .iload_n 3, 1, (0, 0, 0, .null)),
  (81, .aload_n 0, 1, (0, 0, 0, .null)),
  (82, .getfield 19, 3, (6, 2, 169, .null)),
  (85, .getfield 48, 3, (5, 8, 140, .null)),
  (88, .iconst 1, 1, (0, 0, 0, .int 1)),
  (89, .isub, 1, (0, 0, 0, .null)),
  (90, .invokevirtual 170, 3, (74, 2, 534, .ref 4)),
  (93, .aload_n 0, 1, (0, 0, 0, .null)),
  (94, .dup, 1, (0, 0, 0, .null)),
  (95, .getfield 57, 3, (6, 9, 176, .null)),
  (98, .iconst 1, 1, (0, 0, 0, .int 1)),
  (99, .iadd, 1, (0, 0, 0, .null)),
  (100, .putfield 57, 3, (6, 9, 176, .null)),
  (103, .aload_n 0, 1, (0, 0, 0, .null)),
  (104, .bipush 24, 2, (0, 0, 0, .int 24)),
  (106, .invokevirtual 91, 3, (62, 1, 441, .ref 6)),
  (109, .ifCond .eq 17, 3, (126, 0, 0, .null)),
  (112, .aload_n 0, 1, (0, 0, 0, .null)),
  (113, .iload_n 1, 1, (0, 0, 0, .null)),
  (114, .iconst 1, 1, (0, 0, 0, .int 1)),
  (115, .iadd, 1, (0, 0, 0, .null)),
  (116, .invokevirtual 107, 3, (54, 1, 486, .ref 6)),
  (119, .ifCond .eq 7, 3, (126, 0, 0, .null)),
  (122, .iconst 1, 1, (0, 0, 0, .int 1)),
  (123, .goto 4, 3, (127, 0, 0, .null)),
  (126, .iconst 0, 1, (0, 0, 0, .int 0)),
  (127, .istore 4, 2, (0, 0, 0, .null)),
  (129, .aload_n 0, 1, (0, 0, 0, .null)),
  (130, .dup, 1, (0, 0, 0, .null)),
  (131, .getfield 57, 3, (6, 9, 176, .null)),
  (134, .iconst 1, 1, (0, 0, 0, .int 1)),
  (135, .isub, 1, (0, 0, 0, .null)),
  (136, .putfield 57, 3, (6, 9, 176, .null)),
  (139, .iload 4, 2, (0, 0, 0, .null)),
  (141, .ifCond .eq 16, 3, (157, 0, 0, .null)),
  (144, .aload_n 0, 1, (0, 0, 0, .null)),
  (145, .bipush 93, 2, (0, 0, 0, .int 93)),
  (147, .invokevirtual 91, 3, (62, 1, 441, .ref 6)),
  (150, .ifCond .eq 7, 3, (157, 0, 0, .null)),
  (153, .iconst 1, 1, (0, 0, 0, .int 1)),
  (154, .goto 4, 3, (158, 0, 0, .null)),
  (157, .iconst 0, 1, (0, 0, 0, .int 0)),
  (158, .ireturn, 1, (0, 0, 0, .null))]
abbrev md_60 : am_M := (⟨"BindingServer$Parser", "comprehension", "(I)Z"⟩, prog_6_method_22_code, 5, some .boolean, tb_60)
def tb_61 : List am_I := [(0, .aload_n 0, 1, (0, 0, 0, .null)),
  (1, .getfield 36, 3, (6, 5, 172, .null)),
  (4, .ifCond .ne 24, 3, (28, 0, 0, .null)),
  (7, .aload_n 0, 1, (0, 0, 0, .null)),
  (8, .getfield 9, 3, (6, 0, 167, .null)),
  (11, .aload_n 0, 1, (0, 0, 0, .null)),
  (12, .getfield 69, 3, (6, 4, 171, .null)),
  (15, .iconst 1, 1, (0, 0, 0, .int 1)),
  (16, .iadd, 1, (0, 0, 0, .null)),
  (17, .invokevirtual 173, 3, (94, 1, 514, .ref 2)),
  (20, .iload_n 1, 1, (0, 0, 0, .null)),
  (21, .if_icmp .ne 7, 3, (28, 0, 0, .null)),
  (24, .iconst 1, 1, (0, 0, 0, .int 1)),
  (25, .goto 4, 3, (29, 0, 0, .null)),
  (28, .iconst 0, 1, (0, 0, 0, .int 0)),
  (29, .ireturn, 1, (0, 0, 0, .null))]
abbrev md_61 : am_M := (⟨"BindingServer$Parser", "seesNameBefore", "(I)Z"⟩, prog_6_method_23_code, 2, some .boolean, tb_61)
def tb_62 : List am_I := [(0, .aload_n 0, 1, (0, 0, 0, .null)),
  (1, .getfield 36, 3, (6, 5, 172, .null)),
  (4, .iload_n 1, 1, (0, 0, 0, .null)),
  (5, .if_icmp .eq 10, 3, (15, 0, 0, .null)),
  (8, .aload_n 0, 1, (0, 0, 0, .null)),
  (9, .bipush 20, 2, (0, 0, 0, .int 20)),
  (11, .invokevirtual 164, 3, (67, 1, 445, .ref 6)),
  (14, .ireturn, 1, (0, 0, 0, .null)),
  (15, .aload_n 0, 1, (0, 0, 0, .null)),
  (16, .invokevirtual 75, 3, (66, 0, 421, .ref 6)),
  (19, .iconst 1, 1, (0, 0, 0, .int 1)),
  (20, .ireturn, 1, (0, 0, 0, .null))]
abbrev md_62 : am_M := (⟨"BindingServer$Parser", "take", "(I)Z"⟩, prog_6_method_24_code, 2, some .boolean, tb_62)
def tb_63 : List am_I := [(0, .aload_n 0, 1, (0, 0, 0, .null)),
  (1, .getfield 36, 3, (6, 5, 172, .null)),
  (4, .iload_n 1, 1, (0, 0, 0, .null)),
  (5, .if_icmp .eq 10, 3, (15, 0, 0, .null)),
  (8, .aload_n 0, 1, (0, 0, 0, .null)),
  (9, .bipush 20, 2, (0, 0, 0, .int 20)),
  (11, .invokevirtual 164, 3, (67, 1, 445, .ref 6)),
  (14, .ireturn, 1, (0, 0, 0, .null)),
  (15, .iload_n 2, 1, (0, 0, 0, .null)),
  (16, .bipush 10, 2, (0, 0, 0, .int 10)),
  (18, .if_icmp .lt 10, 3, (28, 0, 0, .null)),
  (21, .aload_n 0, 1, (0, 0, 0, .null)),
  (22, .bipush 21, 2, (0, 0, 0, .int 21)),
  (24, .invokevirtual 164, 3, (67, 1, 445, .ref 6)),
  (27, .ireturn, 1, (0, 0, 0, .null)),
  (28, .aload_n 0, 1, (0, 0, 0, .null)),
  (29, .invokevirtual 75, 3, (66, 0, 421, .ref 6)),
  (32, .iconst 1, 1, (0, 0, 0, .int 1)),
  (33, .ireturn, 1, (0, 0, 0, .null))]
abbrev md_63 : am_M := (⟨"BindingServer$Parser", "takeDeeper", "(II)Z"⟩, prog_6_method_25_code, 3, some .boolean, tb_63)
def tb_64 : List am_I := [(0, .aload_n 0, 1, (0, 0, 0, .null)),
  (1, .getfield 36, 3, (6, 5, 172, .null)),
  (4, .ifCond .eq 10, 3, (14, 0, 0, .null)),
  (7, .aload_n 0, 1, (0, 0, 0, .null)),
  (8, .bipush 20, 2, (0, 0, 0, .int 20)),
  (10, .invokevirtual 164, 3, (67, 1, 445, .ref 6)),
  (13, .ireturn, 1, (0, 0, 0, .null)),
  (14, .aload_n 0, 1, (0, 0, 0, .null)),
  (15, .getfield 78, 3, (6, 6, 173, .null)),
  (18, .istore_n 2, 1, (0, 0, 0, .null)),
  (19, .aload_n 0, 1, (0, 0, 0, .null)),
  (20, .invokevirtual 75, 3, (66, 0, 421, .ref 6)),
  (23, .aload_n 0, 1, (0, 0, 0, .null)),
  (24, .getfield 19, 3, (6, 2, 169, .null)),
  (27, .iload_n 2, 1, (0, 0, 0, .null)),
  (28, .aload_n 0, 1, (0, 0, 0, .null)),
  (29, .getfield 72, 3, (6, 7, 174, .null)),
  (32, .aload_n 0, 1, (0, 0, 0, .null)),
  (33, .getfield 54, 3, (6, 8, 175, .null)),
  (36, .aload_n 0, 1, (0, 0, 0, .null)),
  (37, .getfield 54, 3, (6, 8, 175, .null)),
  (40, .iload_n 1, 1, (0, 0, 0, .null)),
  (41, .invokevirtual 176, 3, (29, 5, 453, .ref 5)),
  (44, .iconst 1, 1, (0, 0, 0, .int 1)),
  (45, .ireturn, 1, (0, 0, 0, .null))]
abbrev md_64 : am_M := (⟨"BindingServer$Parser", "takeName", "(I)Z"⟩, prog_6_method_26_code, 3, some .boolean, tb_64)
def tb_65 : List am_I := [(0, .aload_n 0, 1, (0, 0, 0, .null)),
  (1, .getfield 78, 3, (6, 6, 173, .null)),
  (4, .istore_n 1, 1, (0, 0, 0, .null)),
  (5, .aload_n 0, 1, (0, 0, 0, .null)),
  (6, .invokevirtual 75, 3, (66, 0, 421, .ref 6)),
  (9, .bipush 34, 2, (0, 0, 0, .int 34)),
  (11, .istore_n 2, 1, (0, 0, 0, .null)),
  (12, .aload_n 0, 1, (0, 0, 0, .null)),
  (13, .getfield 57, 3, (6, 9, 176, .null)),
  (16, .ifCond .le 8, 3, (24, 0, 0, .null)),
  (19, .iload_n 2, 1, (0, 0, 0, .null)),
  (20, .bipush 64, 2, (0, 0, 0, .int 64)),
  (22, .ior, 1, (0, 0, 0, .null)),
  (23, .istore_n 2, 1, (0, 0, 0, .null)),
  (24, .aload_n 0, 1, (0, 0, 0, .null)),
  (25, .getfield 15, 3, (6, 1, 168, .null)),
  (28, .aload_n 0, 1, (0, 0, 0, .null)),
  (29, .getfield 54, 3, (6, 8, 175, .null)),
  (32, .invokevirtual 179, 3, (75, 1, 522, .ref 4)),
  (35, .istore_n 3, 1, (0, 0, 0, .null)),
  (36, .aload_n 0, 1, (0, 0, 0, .null)),
  (37, .getfield 19, 3, (6, 2, 169, .null)),
  (40, .iload_n 1, 1, (0, 0, 0, .null)),
  (41, .aload_n 0, 1, (0, 0, 0, .null)),
  (42, .getfield 72, 3, (6, 7, 174, .null)),
  (45, .aload_n 0, 1, (0, 0, 0, .null)),
  (46, .getfield 54, 3, (6, 8, 175, .null)),
  (49, .iload_n 3, 1, (0, 0, 0, .null)),
  (50, .iload_n 2, 1, (0, 0, 0, .null)),
  (51, .invokevirtual 176, 3, (29, 5, 453, .ref 5)),
  (54, .aload_n 0, 1, (0, 0, 0, .null)),
  (55, .invokevirtual 75, 3, (66, 0, 421, .ref 6)),
  (58, .return_, 1, (0, 0, 0, .null))]
abbrev md_65 : am_M := (⟨"BindingServer$Parser", "takeWalrus", "()V"⟩, prog_6_method_27_code, 4, none, tb_65)
def tb_66 : List am_I := [(0, .aload_n 0, 1, (0, 0, 0, .null)),
  (1, .getfield 36, 3, (6, 5, 172, .null)),
  (4, .iconst 4, 1, (0, 0, 0, .int 4)),
  (5, .if_icmp .lt 12, 3, (17, 0, 0, .null)),
  (8, .aload_n 0, 1, (0, 0, 0, .null)),
  (9, .getfield 36, 3, (6, 5, 172, .null)),
  (12, .bipush 8, 2, (0, 0, 0, .int 8)),
  (14, .if_icmp .le 7, 3, (21, 0, 0, .null)),
  (17, .iconst 1, 1, (0, 0, 0, .int 1)),
  (18, .goto 4, 3, (22, 0, 0, .null)),
  (21, .iconst 0, 1, (0, 0, 0, .int 0)),
  (22, .istore_n 1, 1, (0, 0, 0, .null)),
  (23, .iload_n 1, 1, (0, 0, 0, .null)),
  (24, .ifCond .eq 40, 3, (64, 0, 0, .null)),
  (27, .aload_n 0, 1, (0, 0, 0, .null)),
  (28, .getfield 69, 3, (6, 4, 171, .null)),
  (31, .ifCond .lt 33, 3, (64, 0, 0, .null)),
  (34, .aload_n 0, 1, (0, 0, 0, .null)),
  (35, .getfield 69, 3, (6, 4, 171, .null)),
  (38, .aload_n 0, 1, (0, 0, 0, .null)),
  (39, .getfield 9, 3, (6, 0, 167, .null)),
  (42, .getfield 30, 3, (2, 5, 54, .null)),
  (45, .if_icmp .ge 19, 3, (64, 0, 0, .null)),
  (48, .aload_n 0, 1, (0, 0, 0, .null)),
  (49, .aload_n 0, 1, (0, 0, 0, .null)),
  (50, .getfield 9, 3, (6, 0, 167, .null)),
  (53, .getfield 182, 3, (2, 3, 52, .null)),
  (56, .aload_n 0, 1, (0, 0, 0, .null)),
  (57, .getfield 69, 3, (6, 4, 171, .null)),
  (60, .iaload, 1, (0, 0, 0, .null)),
  (61, .putfield 72, 3, (6, 7, 174, .null)),
  (64, .aload_n 0, 1, (0, 0, 0, .null)),
  (65, .dup, 1, (0, 0, 0, .null)),
  (66, .getfield 69, 3, (6, 4, 171, .null)),
  (69, .iconst 1, 1, (0, 0, 0, .int 1)),
  (70, .iadd, 1, (0, 0, 0, .null)),
  (71, .putfield 69, 3, (6, 4, 171, .null)),
  (74, .aload_n 0, 1, (0, 0, 0, .null)),
  (75, .getfield 69, 3, (6, 4, 171, .null)),
  (78, .aload_n 0, 1, (0, 0, 0, .null)),
  (79, .getfield 9, 3, (6, 0, 167, .null)),
  (82, .getfield 30, 3, (2, 5, 54, .null)),
  (85, .if_icmp .ge 35, 3, (120, 0, 0, .null)),
  (88, .aload_n 0, 1, (0, 0, 0, .null)),
  (89, .aload_n 0, 1, (0, 0, 0, .null)),
  (90, .getfield 9, 3, (6, 0, 167, .null)),
  (93, .getfield 186, 3, (2, 1, 48, .null)),
  (96, .aload_n 0, 1, (0, 0, 0, .null)),
  (97, .getfield 69, 3, (6, 4, 171, .null)),
  (100, .iaload, 1, (0, 0, 0, .null)),
  (101, .putfield 36, 3, (6, 5, 172, .null)),
  (104, .aload_n 0, 1, (0, 0, 0, .null)),
  (105, .aload_n 0, 1, (0, 0, 0, .null)),
  (106, .getfield 9, 3, (6, 0, 167, .null)),
  (109, .getfield 189, 3, (2, 2, 50, .null)),
  (112, .aload_n 0, 1, (0, 0, 0, .null)),
  (113, .getfield 69, 3, (6, 4, 171, .null)),
  (116, .iaload, 1, (0, 0, 0, .null)),
  (117, .putfield 78, 3, (6, 6, 173, .null)),
  (120, .return_, 1, (0, 0, 0, .null))]
abbrev md_66 : am_M := (⟨"BindingServer$Parser", "advance", "()V"⟩, prog_6_method_28_code, 2, none, tb_66)
def tb_67 : List am_I := [(0, .aload_n 0, 1, (0, 0, 0, .null)),
  (1, .iload_n 1, 1, (0, 0, 0, .null)),
  (2, .putfield 60, 3, (6, 10, 177, .null)),
  (5, .aload_n 0, 1, (0, 0, 0, .null)),
  (6, .aload_n 0, 1, (0, 0, 0, .null)),
  (7, .getfield 78, 3, (6, 6, 173, .null)),
  (10, .putfield 63, 3, (6, 11, 179, .null)),
  (13, .iconst 0, 1, (0, 0, 0, .int 0)),
  (14, .ireturn, 1, (0, 0, 0, .null))]
abbrev md_67 : am_M := (⟨"BindingServer$Parser", "refuse", "(I)Z"⟩, prog_6_method_29_code, 2, some .boolean, tb_67)
def tb_68 : List am_I := [(0, .aload_n 0, 1, (0, 0, 0, .null)),
  (1, .invokespecial 3, 3, (1002, 0, 99, .null)),
  (4, .aload_n 0, 1, (0, 0, 0, .null)),
  (5, .bipush 32, 2, (0, 0, 0, .int 32)),
  (7, .newarray .int, 2, (0, 0, 0, .null)),
  (9, .putfield 11, 3, (4, 0, 100, .null)),
  (12, .aload_n 0, 1, (0, 0, 0, .null)),
  (13, .bipush 32, 2, (0, 0, 0, .int 32)),
  (15, .newarray .int, 2, (0, 0, 0, .null)),
  (17, .putfield 15, 3, (4, 1, 101, .null)),
  (20, .aload_n 0, 1, (0, 0, 0, .null)),
  (21, .bipush 32, 2, (0, 0, 0, .int 32)),
  (23, .newarray .int, 2, (0, 0, 0, .null)),
  (25, .putfield 18, 3, (4, 2, 102, .null)),
  (28, .return_, 1, (0, 0, 0, .null))]
abbrev md_68 : am_M := (⟨"BindingServer$Scopes", "<init>", "()V"⟩, prog_7_method_1_code, 1, none, tb_68)
def tb_69 : List am_I := [(0, .aload_n 0, 1, (0, 0, 0, .null)),
  (1, .iconst 0, 1, (0, 0, 0, .int 0)),
  (2, .putfield 21, 3, (4, 3, 103, .null)),
  (5, .aload_n 0, 1, (0, 0, 0, .null)),
  (6, .iconst 0, 1, (0, 0, 0, .int 0)),
  (7, .iconst 0, 1, (0, 0, 0, .int 0)),
  (8, .invokevirtual 25, 3, (70, 2, 417, .ref 4)),
  (11, .pop, 1, (0, 0, 0, .null)),
  (12, .return_, 1, (0, 0, 0, .null))]
abbrev md_69 : am_M := (⟨"BindingServer$Scopes", "clear", "()V"⟩, prog_7_method_2_code, 1, none, tb_69)
def tb_70 : List am_I := [(0, .aload_n 0, 1, (0, 0, 0, .null)),
  (1, .getfield 21, 3, (4, 3, 103, .null)),
  (4, .bipush 32, 2, (0, 0, 0, .int 32)),
  (6, .if_icmp .lt 5, 3, (11, 0, 0, .null)),
  (9, .iload_n 2, 1, (0, 0, 0, .null)),
  (10, .ireturn, 1, (0, 0, 0, .null)),
  (11, .aload_n 0, 1, (0, 0, 0, .null)),
  (12, .getfield 11, 3, (4, 0, 100, .null)),
  (15, .aload_n 0, 1, (0, 0, 0, .null)),
  (16, .getfield 21, 3, (4, 3, 103, .null)),
  (19, .iload_n 1, 1, (0, 0, 0, .null)),
  (20, .iastore, 1, (0, 0, 0, .null)),
  (21, .aload_n 0, 1, (0, 0, 0, .null)),
  (22, .getfield 15, 3, (4, 1, 101, .null)),
  (25, .aload_n 0, 1, (0, 0, 0, .null)),
  (26, .getfield 21, 3, (4, 3, 103, .null)),
  (29, .iload_n 2, 1, (0, 0, 0, .null)),
  (30, .iastore, 1, (0, 0, 0, .null)),
  (31, .aload_n 0, 1, (0, 0, 0, .null)),
  (32, .getfield 18, 3, (4, 2, 102, .null)),
  (35, .aload_n 0, 1, (0, 0, 0, .null)),
  (36, .getfield 21, 3, (4, 3, 103, .null)),
  (39, .iconst (-1), 1, (0, 0, 0, .int (-1))),
  (40, .iastore, 1, (0, 0, 0, .null)),
  (41, .aload_n 0, 1, (0, 0, 0, .null)),
  (42, .dup, 1, (0, 0, 0, .null)),
  (43, .getfield 21, 3, (4, 3, 103, .null)),
  (46, .iconst 1, 1, (0, 0, 0, .int 1)),
  (47, .iadd, 1, (0, 0, 0, .null)),
  (48, .putfield 21, 3, (4, 3, 103, .null)),
  (51, .aload_n 0, 1, (0, 0, 0, .null)),
  (52, .getfield 21, 3, (4, 3, 103, .null)),
  (55, .iconst 1, 1, (0, 0, 0, .int 1)),
  (56, .isub, 1, (0, 0, 0, .null)),
  (57, .ireturn, 1, (0, 0, 0, .null))]
abbrev md_70 : am_M := (⟨"BindingServer$Scopes", "open", "(II)I"⟩, prog_7_method_3_code, 3, some .int, tb_70)
def tb_71 : List am_I := [(0, .iload_n 1, 1, (0, 0, 0, .null)),
  (1, .ifCond .lt 20, 3, (21, 0, 0, .null)),
  (4, .iload_n 1, 1, (0, 0, 0, .null)),
  (5, .aload_n 0, 1, (0, 0, 0, .null)),
  (6, .getfield 21, 3, (4, 3, 103, .null)),
  (9, .if_icmp .ge 12, 3, (21, 0, 0, .null)),
  (12, .aload_n 0, 1, (0, 0, 0, .null)),
  (13, .getfield 11, 3, (4, 0, 100, .null)),
  (16, .iload_n 1, 1, (0, 0, 0, .null)),
  (17, .iaload, 1, (0, 0, 0, .null)),
  (18, .goto 4, 3, (22, 0, 0, .null)),
  (21, .iconst 0, 1, (0, 0, 0, .int 0)),
  (22, .ireturn, 1, (0, 0, 0, .null))]
abbrev md_71 : am_M := (⟨"BindingServer$Scopes", "sortOf", "(I)I"⟩, prog_7_method_4_code, 2, some .int, tb_71)
def tb_72 : List am_I := [(0, .iload_n 1, 1, (0, 0, 0, .null)),
  (1, .ifCond .lt 20, 3, (21, 0, 0, .null)),
  (4, .iload_n 1, 1, (0, 0, 0, .null)),
  (5, .aload_n 0, 1, (0, 0, 0, .null)),
  (6, .getfield 21, 3, (4, 3, 103, .null)),
  (9, .if_icmp .ge 12, 3, (21, 0, 0, .null)),
  (12, .aload_n 0, 1, (0, 0, 0, .null)),
  (13, .getfield 15, 3, (4, 1, 101, .null)),
  (16, .iload_n 1, 1, (0, 0, 0, .null)),
  (17, .iaload, 1, (0, 0, 0, .null)),
  (18, .goto 4, 3, (22, 0, 0, .null)),
  (21, .iconst 0, 1, (0, 0, 0, .int 0)),
  (22, .ireturn, 1, (0, 0, 0, .null))]
abbrev md_72 : am_M := (⟨"BindingServer$Scopes", "parentOf", "(I)I"⟩, prog_7_method_5_code, 2, some .int, tb_72)
def tb_73 : List am_I := [(0, .iload_n 1, 1, (0, 0, 0, .null)),
  (1, .ifCond .lt 20, 3, (21, 0, 0, .null)),
  (4, .iload_n 1, 1, (0, 0, 0, .null)),
  (5, .aload_n 0, 1, (0, 0, 0, .null)),
  (6, .getfield 21, 3, (4, 3, 103, .null)),
  (9, .if_icmp .ge 12, 3, (21, 0, 0, .null)),
  (12, .aload_n 0, 1, (0, 0, 0, .null)),
  (13, .getfield 18, 3, (4, 2, 102, .null)),
  (16, .iload_n 1, 1, (0, 0, 0, .null)),
  (17, .iaload, 1, (0, 0, 0, .null)),
  (18, .goto 4, 3, (22, 0, 0, .null)),
  (21, .iconst (-1), 1, (0, 0, 0, .int (-1))),
  (22, .ireturn, 1, (0, 0, 0, .null))]
abbrev md_73 : am_M := (⟨"BindingServer$Scopes", "targetOf", "(I)I"⟩, prog_7_method_6_code, 2, some .int, tb_73)
def tb_74 : List am_I := [(0, .iload_n 1, 1, (0, 0, 0, .null)),
  (1, .ifCond .lt 18, 3, (19, 0, 0, .null)),
  (4, .iload_n 1, 1, (0, 0, 0, .null)),
  (5, .aload_n 0, 1, (0, 0, 0, .null)),
  (6, .getfield 21, 3, (4, 3, 103, .null)),
  (9, .if_icmp .ge 10, 3, (19, 0, 0, .null)),
  (12, .aload_n 0, 1, (0, 0, 0, .null)),
  (13, .getfield 18, 3, (4, 2, 102, .null)),
  (16, .iload_n 1, 1, (0, 0, 0, .null)),
  (17, .iload_n 2, 1, (0, 0, 0, .null)),
  (18, .iastore, 1, (0, 0, 0, .null)),
  (19, .return_, 1, (0, 0, 0, .null))]
abbrev md_74 : am_M := (⟨"BindingServer$Scopes", "setTarget", "(II)V"⟩, prog_7_method_7_code, 3, none, tb_74)
def tb_75 : List am_I := [(0, .iload_n 1, 1, (0, 0, 0, .null)),
  (1, .istore_n 2, 1, (0, 0, 0, .null)),
  (2, .iconst 0, 1, (0, 0, 0, .int 0)),
  (3, .istore_n 3, 1, (0, 0, 0, .null)),
  (4, .iload_n 3, 1, (0, 0, 0, .null)),
  (5, .aload_n 0, 1, (0, 0, 0, .null)),
  (6, .getfield 21, 3, (4, 3, 103, .null)),
  (9, .if_icmp .ge 41, 3, (50, 0, 0, .null)),
  (12, .iload_n 2, 1, (0, 0, 0, .null)),
  (13, .ifCond .lt 37, 3, (50, 0, 0, .null)),
  (16, .iload_n 2, 1, (0, 0, 0, .null)),
  (17, .aload_n 0, 1, (0, 0, 0, .null)),
  (18, .getfield 21, 3, (4, 3, 103, .null)),
  (21, .if_icmp .ge 29, 3, (50, 0, 0, .null)),
  (24, .aload_n 0, 1, (0, 0, 0, .null)),
  (25, .getfield 11, 3, (4, 0, 100, .null)),
  (28, .iload_n 2, 1, (0, 0, 0, .null)),
  (29, .iaload, 1, (0, 0, 0, .null)),
  (30, .iconst 4, 1, (0, 0, 0, .int 4)),
  (31, .if_icmp .eq 6, 3, (37, 0, 0, .null)),
  (34, .goto 16, 3, (50, 0, 0, .null)),
  (37, .aload_n 0, 1, (0, 0, 0, .null)),
  (38, .getfield 15, 3, (4, 1, 101, .null)),
  (41, .iload_n 2, 1, (0, 0, 0, .null)),
  (42, .iaload, 1, (0, 0, 0, .null)),
  (43, .istore_n 2, 1, (0, 0, 0, .null)),
  (44, .iinc 3 1, 3, (0, 0, 0, .null)),
  (47, .goto (-43), 3, (4, 0, 0, .null)),
  (50, .iload_n 2, 1, (0, 0, 0, .null)),
  (51, .ireturn, 1, (0, 0, 0, .null))]
abbrev md_75 : am_M := (⟨"BindingServer$Scopes", "outsideComprehensions", "(I)I"⟩, prog_7_method_8_code, 4, some .int, tb_75)
def tb_76 : List am_I := [(0, .aload_n 0, 1, (0, 0, 0, .null)),
  (1, .invokespecial 1, 3, (1002, 0, 239, .null)),
  (4, .aload_n 0, 1, (0, 0, 0, .null)),
  (5, .sipush 200, 3, (0, 0, 0, .int 200)),
  (8, .newarray .char, 2, (0, 0, 0, .null)),
  (10, .putfield 9, 3, (8, 0, 240, .null)),
  (13, .aload_n 0, 1, (0, 0, 0, .null)),
  (14, .bipush 100, 2, (0, 0, 0, .int 100)),
  (16, .newarray .int, 2, (0, 0, 0, .null)),
  (18, .putfield 17, 3, (8, 1, 241, .null)),
  (21, .aload_n 0, 1, (0, 0, 0, .null)),
  (22, .bipush 100, 2, (0, 0, 0, .int 100)),
  (24, .newarray .int, 2, (0, 0, 0, .null)),
  (26, .putfield 21, 3, (8, 2, 242, .null)),
  (29, .return_, 1, (0, 0, 0, .null))]
abbrev md_76 : am_M := (⟨"BindingServer$Snapshot", "<init>", "()V"⟩, prog_8_method_1_code, 1, none, tb_76)
def tb_77 : List am_I := [(0, .aload_n 1, 1, (0, 0, 0, .null)),
  (1, .getfield 24, 3, (1, 0, 29, .null)),
  (4, .iconst 0, 1, (0, 0, 0, .int 0)),
  (5, .aload_n 0, 1, (0, 0, 0, .null)),
  (6, .getfield 9, 3, (8, 0, 240, .null)),
  (9, .iconst 0, 1, (0, 0, 0, .int 0)),
  (10, .aload_n 1, 1, (0, 0, 0, .null)),
  (11, .getfield 25, 3, (1, 1, 31, .null)),
  (14, .invokestatic 29, 3, (1001, 0, 765, .null)),
  (17, .aload_n 0, 1, (0, 0, 0, .null)),
  (18, .aload_n 1, 1, (0, 0, 0, .null)),
  (19, .getfield 25, 3, (1, 1, 31, .null)),
  (22, .putfield 35, 3, (8, 3, 243, .null)),
  (25, .aload_n 0, 1, (0, 0, 0, .null)),
  (26, .aload_n 2, 1, (0, 0, 0, .null)),
  (27, .getfield 36, 3, (5, 8, 139, .null)),
  (30, .putfield 39, 3, (8, 4, 244, .null)),
  (33, .iconst 0, 1, (0, 0, 0, .int 0)),
  (34, .istore_n 3, 1, (0, 0, 0, .null)),
  (35, .iload_n 3, 1, (0, 0, 0, .null)),
  (36, .aload_n 0, 1, (0, 0, 0, .null)),
  (37, .getfield 39, 3, (8, 4, 244, .null)),
  (40, .if_icmp .ge 31, 3, (71, 0, 0, .null)),
  (43, .aload_n 0, 1, (0, 0, 0, .null)),
  (44, .getfield 17, 3, (8, 1, 241, .null)),
  (47, .iload_n 3, 1, (0, 0, 0, .null)),
  (48, .aload_n 2, 1, (0, 0, 0, .null)),
  (49, .iload_n 3, 1, (0, 0, 0, .null)),
  (50, .invokevirtual 40, 3, (38, 1, 766, .ref 5)),
  (53, .iastore, 1, (0, 0, 0, .null)),
  (54, .aload_n 0, 1, (0, 0, 0, .null)),
  (55, .getfield 21, 3, (8, 2, 242, .null)),
  (58, .iload_n 3, 1, (0, 0, 0, .null)),
  (59, .aload_n 2, 1, (0, 0, 0, .null)),
  (60, .iload_n 3, 1, (0, 0, 0, .null)),
  (61, .invokevirtual 44, 3, (36, 1, 767, .ref 5)),
  (64, .iastore, 1, (0, 0, 0, .null)),
  (65, .iinc 3 1, 3, (0, 0, 0, .null)),
  (68, .goto (-33), 3, (35, 0, 0, .null)),
  (71, .return_, 1, (0, 0, 0, .null))]
abbrev md_77 : am_M := (⟨"BindingServer$Snapshot", "keep", "(LBindingServer$Text;LBindingServer$Occurrences;)V"⟩, prog_8_method_2_code, 4, none, tb_77)
def tb_78 : List am_I := [(0, .aload_n 0, 1, (0, 0, 0, .null)),
  (1, .getfield 9, 3, (8, 0, 240, .null)),
  (4, .iconst 0, 1, (0, 0, 0, .int 0)),
  (5, .aload_n 1, 1, (0, 0, 0, .null)),
  (6, .getfield 24, 3, (1, 0, 29, .null)),
  (9, .iconst 0, 1, (0, 0, 0, .int 0)),
  (10, .aload_n 0, 1, (0, 0, 0, .null)),
  (11, .getfield 35, 3, (8, 3, 243, .null)),
  (14, .invokestatic 29, 3, (1001, 0, 765, .null)),
  (17, .aload_n 1, 1, (0, 0, 0, .null)),
  (18, .aload_n 0, 1, (0, 0, 0, .null)),
  (19, .getfield 35, 3, (8, 3, 243, .null)),
  (22, .putfield 25, 3, (1, 1, 31, .null)),
  (25, .return_, 1, (0, 0, 0, .null))]
abbrev md_78 : am_M := (⟨"BindingServer$Snapshot", "putBack", "(LBindingServer$Text;)V"⟩, prog_8_method_3_code, 2, none, tb_78)
def tb_79 : List am_I := [(0, .aload_n 1, 1, (0, 0, 0, .null)),
  (1, .getfield 36, 3, (5, 8, 139, .null)),
  (4, .aload_n 0, 1, (0, 0, 0, .null)),
  (5, .getfield 39, 3, (8, 4, 244, .null)),
  (8, .if_icmp .eq 5, 3, (13, 0, 0, .null)),
  (11, .iconst 0, 1, (0, 0, 0, .int 0)),
  (12, .ireturn, 1, (0, 0, 0, .null)),
  (13, .iconst 0, 1, (0, 0, 0, .int 0)),
  (14, .istore_n 2, 1, (0, 0, 0, .null)),
  (15, .iload_n 2, 1, (0, 0, 0, .null)),
  (16, .aload_n 0, 1, (0, 0, 0, .null)),
  (17, .getfield 39, 3, (8, 4, 244, .null)),
  (20, .if_icmp .ge 39, 3, (59, 0, 0, .null)),
  (23, .aload_n 1, 1, (0, 0, 0, .null)),
  (24, .iload_n 2, 1, (0, 0, 0, .null)),
  (25, .invokevirtual 40, 3, (38, 1, 766, .ref 5)),
  (28, .aload_n 0, 1, (0, 0, 0, .null)),
  (29, .getfield 17, 3, (8, 1, 241, .null)),
  (32, .iload_n 2, 1, (0, 0, 0, .null)),
  (33, .iaload, 1, (0, 0, 0, .null)),
  (34, .if_icmp .ne 17, 3, (51, 0, 0, .null)),
  (37, .aload_n 1, 1, (0, 0, 0, .null)),
  (38, .iload_n 2, 1, (0, 0, 0, .null)),
  (39, .invokevirtual 44, 3, (36, 1, 767, .ref 5)),
  (42, .aload_n 0, 1, (0, 0, 0, .null)),
  (43, .getfield 21, 3, (8, 2, 242, .null)),
  (46, .iload_n 2, 1, (0, 0, 0, .null)),
  (47, .iaload, 1, (0, 0, 0, .null)),
  (48, .if_icmp .eq 5, 3, (53, 0, 0, .null)),
  (51, .iconst 0, 1, (0, 0, 0, .int 0)),
  (52, .ireturn, 1, (0, 0, 0, .null)),
  (53, .iinc 2 1, 3, (0, 0, 0, .null)),
  (56, .goto (-41), 3, (15, 0, 0, .null)),
  (59, .iconst 1, 1, (0, 0, 0, .int 1)),
  (60, .ireturn, 1, (0, 0, 0, .null))]
abbrev md_79 : am_M := (⟨"BindingServer$Snapshot", "agrees", "(LBindingServer$Occurrences;)Z"⟩, prog_8_method_4_code, 3, some .boolean, tb_79)
def tb_80 : List am_I := [(0, .aload_n 0, 1, (0, 0, 0, .null)),
  (1, .invokespecial 3, 3, (1002, 0, 27, .null)),
  (4, .aload_n 0, 1, (0, 0, 0, .null)),
  (5, .sipush 200, 3, (0, 0, 0, .int 200)),
  (8, .newarray .char, 2, (0, 0, 0, .null)),
  (10, .putfield 11, 3, (1, 0, 28, .null)),
  (13, .return_, 1, (0, 0, 0, .null))]
abbrev md_80 : am_M := (⟨"BindingServer$Text", "<init>", "()V"⟩, prog_9_method_1_code, 1, none, tb_80)
def tb_81 : List am_I := [(0, .iload_n 0, 1, (0, 0, 0, .null)),
  (1, .bipush 10, 2, (0, 0, 0, .int 10)),
  (3, .if_icmp .eq 15, 3, (18, 0, 0, .null)),
  (6, .iload_n 0, 1, (0, 0, 0, .null)),
  (7, .bipush 32, 2, (0, 0, 0, .int 32)),
  (9, .if_icmp .lt 13, 3, (22, 0, 0, .null)),
  (12, .iload_n 0, 1, (0, 0, 0, .null)),
  (13, .bipush 126, 2, (0, 0, 0, .int 126)),
  (15, .if_icmp .gt 7, 3, (22, 0, 0, .null)),
  (18, .iconst 1, 1, (0, 0, 0, .int 1)),
  (19, .goto 4, 3, (23, 0, 0, .null)),
  (22, .iconst 0, 1, (0, 0, 0, .int 0)),
  (23, .ireturn, 1, (0, 0, 0, .null))]
abbrev md_81 : am_M := (⟨"BindingServer$Text", "isCharacter", "(I)Z"⟩, prog_9_method_2_code, 1, some .boolean, tb_81)
def tb_82 : List am_I := [(0, .iload_n 0, 1, (0, 0, 0, .null)),
  (1, .bipush 48, 2, (0, 0, 0, .int 48)),
  (3, .if_icmp .lt 13, 3, (16, 0, 0, .null)),
  (6, .iload_n 0, 1, (0, 0, 0, .null)),
  (7, .bipush 57, 2, (0, 0, 0, .int 57)),
  (9, .if_icmp .gt 7, 3, (16, 0, 0, .null)),
  (12, .iconst 1, 1, (0, 0, 0, .int 1)),
  (13, .goto 4, 3, (17, 0, 0, .null)),
  (16, .iconst 0, 1, (0, 0, 0, .int 0)),
  (17, .ireturn, 1, (0, 0, 0, .null))]
abbrev md_82 : am_M := (⟨"BindingServer$Text", "isDigit", "(I)Z"⟩, prog_9_method_3_code, 1, some .boolean, tb_82)
def tb_83 : List am_I := [(0, .iload_n 0, 1, (0, 0, 0, .null)),
  (1, .bipush 97, 2, (0, 0, 0, .int 97)),
  (3, .if_icmp .lt 9, 3, (12, 0, 0, .null)),
  (6, .iload_n 0, 1, (0, 0, 0, .null)),
  (7, .bipush 122, 2, (0, 0, 0, .int 122)),
  (9, .if_icmp .le 21, 3, (30, 0, 0, .null)),
  (12, .iload_n 0, 1, (0, 0, 0, .null)),
  (13, .bipush 65, 2, (0, 0, 0, .int 65)),
  (15, .if_icmp .lt 9, 3, (24, 0, 0, .null)),
  (18, .iload_n 0, 1, (0, 0, 0, .null)),
  (19, .bipush 90, 2, (0, 0, 0, .int 90)),
  (21, .if_icmp .le 9, 3, (30, 0, 0, .null)),
  (24, .iload_n 0, 1, (0, 0, 0, .null)),
  (25, .bipush 95, 2, (0, 0, 0, .int 95)),
  (27, .if_icmp .ne 7, 3, (34, 0, 0, .null)),
  (30, .iconst 1, 1, (0, 0, 0, .int 1)),
  (31, .goto 4, 3, (35, 0, 0, .null)),
  (34, .iconst 0, 1, (0, 0, 0, .int 0)),
  (35, .ireturn, 1, (0, 0, 0, .null))]
abbrev md_83 : am_M := (⟨"BindingServer$Text", "isLetter", "(I)Z"⟩, prog_9_method_4_code, 1, some .boolean, tb_83)
def tb_84 : List am_I := [(0, .iload_n 0, 1, (0, 0, 0, .null)),
  (1, .invokestatic 15, 3, (83, 1, 372, .null)),
  (4, .ifCond .ne 10, 3, (14, 0, 0, .null)),
  (7, .iload_n 0, 1, (0, 0, 0, .null)),
  (8, .invokestatic 19, 3, (82, 1, 373, .null)),
  (11, .ifCond .eq 7, 3, (18, 0, 0, .null)),
  (14, .iconst 1, 1, (0, 0, 0, .int 1)),
  (15, .goto 4, 3, (19, 0, 0, .null)),
  (18, .iconst 0, 1, (0, 0, 0, .int 0)),
  (19, .ireturn, 1, (0, 0, 0, .null))]
abbrev md_84 : am_M := (⟨"BindingServer$Text", "isLetterOrDigit", "(I)Z"⟩, prog_9_method_5_code, 1, some .boolean, tb_84)
def tb_85 : List am_I := [(0, .iload_n 1, 1, (0, 0, 0, .null)),
  (1, .ifCond .lt 20, 3, (21, 0, 0, .null)),
  (4, .iload_n 1, 1, (0, 0, 0, .null)),
  (5, .aload_n 0, 1, (0, 0, 0, .null)),
  (6, .getfield 22, 3, (1, 1, 33, .null)),
  (9, .if_icmp .ge 12, 3, (21, 0, 0, .null)),
  (12, .aload_n 0, 1, (0, 0, 0, .null)),
  (13, .getfield 11, 3, (1, 0, 28, .null)),
  (16, .iload_n 1, 1, (0, 0, 0, .null)),
  (17, .caload, 1, (0, 0, 0, .null)),
  (18, .goto 4, 3, (22, 0, 0, .null)),
  (21, .iconst (-1), 1, (0, 0, 0, .int (-1))),
  (22, .ireturn, 1, (0, 0, 0, .null))]
abbrev md_85 : am_M := (⟨"BindingServer$Text", "at", "(I)I"⟩, prog_9_method_6_code, 2, some .int, tb_85)
def tb_86 : List am_I := [(0, .lload_n 3, 1, (0, 0, 0, .null)),
  (1, .invokestatic 26, 3, (20, 1, 304, .null)),
  (4, .istore 5, 2, (0, 0, 0, .null)),
  (6, .aload_n 0, 1, (0, 0, 0, .null)),
  (7, .getfield 11, 3, (1, 0, 28, .null)),
  (10, .iload_n 1, 1, (0, 0, 0, .null)),
  (11, .iload_n 2, 1, (0, 0, 0, .null)),
  (12, .iadd, 1, (0, 0, 0, .null)),
  (13, .aload_n 0, 1, (0, 0, 0, .null)),
  (14, .getfield 11, 3, (1, 0, 28, .null)),
  (17, .iload_n 1, 1, (0, 0, 0, .null)),
  (18, .iload 5, 2, (0, 0, 0, .null)),
  (20, .iadd, 1, (0, 0, 0, .null)),
  (21, .aload_n 0, 1, (0, 0, 0, .null)),
  (22, .getfield 22, 3, (1, 1, 33, .null)),
  (25, .iload_n 1, 1, (0, 0, 0, .null)),
  (26, .isub, 1, (0, 0, 0, .null)),
  (27, .iload_n 2, 1, (0, 0, 0, .null)),
  (28, .isub, 1, (0, 0, 0, .null)),
  (29, .invokestatic 31, 3, (1001, 0, 305, .null)),
  (32, .iload_n 1, 1, (0, 0, 0, .null)),
  (33, .istore 6, 2, (0, 0, 0, .null)),
  (35, .iconst 0, 1, (0, 0, 0, .int 0)),
  (36, .istore 7, 2, (0, 0, 0, .null)),
  (38, .iload 7, 2, (0, 0, 0, .null)),
  (40, .bipush 8, 2, (0, 0, 0, .int 8)),
  (42, .if_icmp .ge 43, 3, (85, 0, 0, .null)),
  (45, .lload_n 3, 1, (0, 0, 0, .null)),
  (46, .iload 7, 2, (0, 0, 0, .null)),
  (48, .invokestatic 37, 3, (19, 2, 308, .null)),
  (51, .istore 8, 2, (0, 0, 0, .null)),
  (53, .iload 8, 2, (0, 0, 0, .null)),
  (55, .ifCond .eq 24, 3, (79, 0, 0, .null)),
  (58, .iload 6, 2, (0, 0, 0, .null)),
  (60, .sipush 200, 3, (0, 0, 0, .int 200)),
  (63, .if_icmp .ge 16, 3, (79, 0, 0, .null)),
  (66, .aload_n 0, 1, (0, 0, 0, .null)),
  (67, .getfield 11, 3, (1, 0, 28, .null)),
  (70, .iload 6, 2, (0, 0, 0, .null)),
  (72, .iload 8, 2, (0, 0, 0, .null)),
  (74, .i2c, 1, (0, 0, 0, .null)),
  (75, .castore, 1, (0, 0, 0, .null)),
  (76, .iinc 6 1, 3, (0, 0, 0, .null)),
  (79, .iinc 7 1, 3, (0, 0, 0, .null)),
  (82, .goto (-44), 3, (38, 0, 0, .null)),
  (85, .aload_n 0, 1, (0, 0, 0, .null)),
  (86, .aload_n 0, 1, (0, 0, 0, .null)),
  (87, .getfield 22, 3, (1, 1, 33, .null)),
  (90, .iload_n 2, 1, (0, 0, 0, .null)),
  (91, .isub, 1, (0, 0, 0, .null)),
  (92, .iload 5, 2, (0, 0, 0, .null)),
  (94, .iadd, 1, (0, 0, 0, .null)),
  (95, .putfield 22, 3, (1, 1, 33, .null)),
  (98, .return_, 1, (0, 0, 0, .null))]
abbrev md_86 : am_M := (⟨"BindingServer$Text", "replace", "(IIJ)V"⟩, prog_9_method_7_code, 9, none, tb_86)
def tb_87 : List am_I := [(0, .iload_n 1, 1, (0, 0, 0, .null)),
  (1, .istore_n 2, 1, (0, 0, 0, .null)),
  (2, .iload_n 2, 1, (0, 0, 0, .null)),
  (3, .aload_n 0, 1, (0, 0, 0, .null)),
  (4, .getfield 22, 3, (1, 1, 33, .null)),
  (7, .if_icmp .ge 20, 3, (27, 0, 0, .null)),
  (10, .aload_n 0, 1, (0, 0, 0, .null)),
  (11, .getfield 11, 3, (1, 0, 28, .null)),
  (14, .iload_n 2, 1, (0, 0, 0, .null)),
  (15, .caload, 1, (0, 0, 0, .null)),
  (16, .bipush 10, 2, (0, 0, 0, .int 10)),
  (18, .if_icmp .eq 9, 3, (27, 0, 0, .null)),
  (21, .iinc 2 1, 3, (0, 0, 0, .null)),
  (24, .goto (-22), 3, (2, 0, 0, .null)),
  (27, .iload_n 2, 1, (0, 0, 0, .null)),
  (28, .ireturn, 1, (0, 0, 0, .null))]
abbrev md_87 : am_M := (⟨"BindingServer$Text", "endOfComment", "(I)I"⟩, prog_9_method_8_code, 3, some .int, tb_87)
def tb_88 : List am_I := [(0, .iload_n 1, 1, (0, 0, 0, .null)),
  (1, .istore_n 2, 1, (0, 0, 0, .null)),
  (2, .iload_n 2, 1, (0, 0, 0, .null)),
  (3, .aload_n 0, 1, (0, 0, 0, .null)),
  (4, .getfield 22, 3, (1, 1, 33, .null)),
  (7, .if_icmp .ge 21, 3, (28, 0, 0, .null)),
  (10, .aload_n 0, 1, (0, 0, 0, .null)),
  (11, .getfield 11, 3, (1, 0, 28, .null)),
  (14, .iload_n 2, 1, (0, 0, 0, .null)),
  (15, .caload, 1, (0, 0, 0, .null)),
  (16, .invokestatic 19, 3, (82, 1, 373, .null)),
  (19, .ifCond .eq 9, 3, (28, 0, 0, .null)),
  (22, .iinc 2 1, 3, (0, 0, 0, .null)),
  (25, .goto (-23), 3, (2, 0, 0, .null)),
  (28, .iload_n 2, 1, (0, 0, 0, .null)),
  (29, .ireturn, 1, (0, 0, 0, .null))]
abbrev md_88 : am_M := (⟨"BindingServer$Text", "endOfDigits", "(I)I"⟩, prog_9_method_9_code, 3, some .int, tb_88)
def tb_89 : List am_I := [(0, .iload_n 1, 1, (0, 0, 0, .null)),
  (1, .istore_n 2, 1, (0, 0, 0, .null)),
  (2, .iload_n 2, 1, (0, 0, 0, .null)),
  (3, .aload_n 0, 1, (0, 0, 0, .null)),
  (4, .getfield 22, 3, (1, 1, 33, .null)),
  (7, .if_icmp .ge 21, 3, (28, 0, 0, .null)),
  (10, .aload_n 0, 1, (0, 0, 0, .null)),
  (11, .getfield 11, 3, (1, 0, 28, .null)),
  (14, .iload_n 2, 1, (0, 0, 0, .null)),
  (15, .caload, 1, (0, 0, 0, .null)),
  (16, .invokestatic 41, 3, (84, 1, 369, .null)),
  (19, .ifCond .eq 9, 3, (28, 0, 0, .null)),
  (22, .iinc 2 1, 3, (0, 0, 0, .null)),
  (25, .goto (-23), 3, (2, 0, 0, .null)),
  (28, .iload_n 2, 1, (0, 0, 0, .null)),
  (29, .ireturn, 1, (0, 0, 0, .null))]
abbrev md_89 : am_M := (⟨"BindingServer$Text", "endOfName", "(I)I"⟩, prog_9_method_10_code, 3, some .int, tb_89)
def tb_90 : List am_I := [(0, .iconst 0, 1, (0, 0, 0, .int 0)),
  (1, .istore 4, 2, (0, 0, 0, .null)),
  (3, .iload 4, 2, (0, 0, 0, .null)),
  (5, .iload_n 3, 1, (0, 0, 0, .null)),
  (6, .if_icmp .ge 30, 3, (36, 0, 0, .null)),
  (9, .aload_n 0, 1, (0, 0, 0, .null)),
  (10, .iload_n 1, 1, (0, 0, 0, .null)),
  (11, .iload 4, 2, (0, 0, 0, .null)),
  (13, .iadd, 1, (0, 0, 0, .null)),
  (14, .invokevirtual 44, 3, (85, 1, 380, .ref 1)),
  (17, .aload_n 0, 1, (0, 0, 0, .null)),
  (18, .iload_n 2, 1, (0, 0, 0, .null)),
  (19, .iload 4, 2, (0, 0, 0, .null)),
  (21, .iadd, 1, (0, 0, 0, .null)),
  (22, .invokevirtual 44, 3, (85, 1, 380, .ref 1)),
  (25, .if_icmp .eq 5, 3, (30, 0, 0, .null)),
  (28, .iconst 0, 1, (0, 0, 0, .int 0)),
  (29, .ireturn, 1, (0, 0, 0, .null)),
  (30, .iinc 4 1, 3, (0, 0, 0, .null)),
  (33, .goto (-30), 3, (3, 0, 0, .null)),
  (36, .iconst 1, 1, (0, 0, 0, .int 1)),
  (37, .ireturn, 1, (0, 0, 0, .null))]
abbrev md_90 : am_M := (⟨"BindingServer$Text", "sameCharacters", "(III)Z"⟩, prog_9_method_11_code, 5, some .boolean, tb_90)
def tb_91 : List am_I := [(0, .lconst 0, 1, (0, 0, 0, .long 0)),
  (1, .lstore_n 3, 1, (0, 0, 0, .null)),
  (2, .iload_n 2, 1, (0, 0, 0, .null)),
  (3, .iload_n 1, 1, (0, 0, 0, .null)),
  (4, .isub, 1, (0, 0, 0, .null)),
  (5, .bipush 8, 2, (0, 0, 0, .int 8)),
  (7, .if_icmp .gt 31, 3, (38, 0, 0, .null)),
  (10, .iload_n 1, 1, (0, 0, 0, .null)),
  (11, .istore 5, 2, (0, 0, 0, .null)),
  (13, .iload 5, 2, (0, 0, 0, .null)),
  (15, .iload_n 2, 1, (0, 0, 0, .null)),
  (16, .if_icmp .ge 22, 3, (38, 0, 0, .null)),
  (19, .lload_n 3, 1, (0, 0, 0, .null)),
  (20, .bipush 8, 2, (0, 0, 0, .int 8)),
  (22, .lshl, 1, (0, 0, 0, .null)),
  (23, .aload_n 0, 1, (0, 0, 0, .null)),
  (24, .iload 5, 2, (0, 0, 0, .null)),
  (26, .invokevirtual 44, 3, (85, 1, 380, .ref 1)),
  (29, .i2l, 1, (0, 0, 0, .null)),
  (30, .lor, 1, (0, 0, 0, .null)),
  (31, .lstore_n 3, 1, (0, 0, 0, .null)),
  (32, .iinc 5 1, 3, (0, 0, 0, .null)),
  (35, .goto (-22), 3, (13, 0, 0, .null)),
  (38, .lload_n 3, 1, (0, 0, 0, .null)),
  (39, .lreturn, 1, (0, 0, 0, .null))]
abbrev md_91 : am_M := (⟨"BindingServer$Text", "packed", "(II)J"⟩, prog_9_method_12_code, 6, some .long, tb_91)
def tb_92 : List am_I := [(0, .aload_n 0, 1, (0, 0, 0, .null)),
  (1, .invokespecial 1, 3, (1002, 0, 45, .null)),
  (4, .aload_n 0, 1, (0, 0, 0, .null)),
  (5, .aload_n 1, 1, (0, 0, 0, .null)),
  (6, .putfield 7, 3, (2, 0, 46, .null)),
  (9, .aload_n 0, 1, (0, 0, 0, .null)),
  (10, .sipush 272, 3, (0, 0, 0, .int 272)),
  (13, .newarray .int, 2, (0, 0, 0, .null)),
  (15, .putfield 13, 3, (2, 1, 47, .null)),
  (18, .aload_n 0, 1, (0, 0, 0, .null)),
  (19, .sipush 272, 3, (0, 0, 0, .int 272)),
  (22, .newarray .int, 2, (0, 0, 0, .null)),
  (24, .putfield 17, 3, (2, 2, 49, .null)),
  (27, .aload_n 0, 1, (0, 0, 0, .null)),
  (28, .sipush 272, 3, (0, 0, 0, .int 272)),
  (31, .newarray .int, 2, (0, 0, 0, .null)),
  (33, .putfield 20, 3, (2, 3, 51, .null)),
  (36, .aload_n 0, 1, (0, 0, 0, .null)),
  (37, .bipush 24, 2, (0, 0, 0, .int 24)),
  (39, .newarray .int, 2, (0, 0, 0, .null)),
  (41, .putfield 23, 3, (2, 4, 53, .null)),
  (44, .return_, 1, (0, 0, 0, .null))]
abbrev md_92 : am_M := (⟨"BindingServer$Tokens", "<init>", "(LBindingServer$Text;)V"⟩, prog_10_method_1_code, 2, none, tb_92)
def tb_93 : List am_I := [(0, .iconst 0, 1, (0, 0, 0, .int 0)),
  (1, .istore_n 2, 1, (0, 0, 0, .null)),
  (2, .iload_n 2, 1, (0, 0, 0, .null)),
  (3, .getstatic 26, 3, (0, 0, 384, .null)),
  (6, .arraylength, 1, (0, 0, 0, .null)),
  (7, .if_icmp .ge 24, 3, (31, 0, 0, .null)),
  (10, .getstatic 26, 3, (0, 0, 384, .null)),
  (13, .iload_n 2, 1, (0, 0, 0, .null)),
  (14, .laload, 1, (0, 0, 0, .null)),
  (15, .lload_n 0, 1, (0, 0, 0, .null)),
  (16, .lcmp, 1, (0, 0, 0, .null)),
  (17, .ifCond .ne 8, 3, (25, 0, 0, .null)),
  (20, .bipush 16, 2, (0, 0, 0, .int 16)),
  (22, .iload_n 2, 1, (0, 0, 0, .null)),
  (23, .iadd, 1, (0, 0, 0, .null)),
  (24, .ireturn, 1, (0, 0, 0, .null)),
  (25, .iinc 2 1, 3, (0, 0, 0, .null)),
  (28, .goto (-26), 3, (2, 0, 0, .null)),
  (31, .iconst 0, 1, (0, 0, 0, .int 0)),
  (32, .ireturn, 1, (0, 0, 0, .null))]
abbrev md_93 : am_M := (⟨"BindingServer$Tokens", "codeOfWord", "(J)I"⟩, prog_10_method_2_code, 3, some .int, tb_93)
def tb_94 : List am_I := [(0, .iload_n 1, 1, (0, 0, 0, .null)),
  (1, .ifCond .lt 20, 3, (21, 0, 0, .null)),
  (4, .iload_n 1, 1, (0, 0, 0, .null)),
  (5, .aload_n 0, 1, (0, 0, 0, .null)),
  (6, .getfield 30, 3, (2, 5, 55, .null)),
  (9, .if_icmp .ge 12, 3, (21, 0, 0, .null)),
  (12, .aload_n 0, 1, (0, 0, 0, .null)),
  (13, .getfield 13, 3, (2, 1, 47, .null)),
  (16, .iload_n 1, 1, (0, 0, 0, .null)),
  (17, .iaload, 1, (0, 0, 0, .null)),
  (18, .goto 5, 3, (23, 0, 0, .null)),
  (21, .bipush 7, 2, (0, 0, 0, .int 7)),
  (23, .ireturn, 1, (0, 0, 0, .null))]
abbrev md_94 : am_M := (⟨"BindingServer$Tokens", "codeAt", "(I)I"⟩, prog_10_method_3_code, 2, some .int, tb_94)
def tb_95 : List am_I := [(0, .iload_n 1, 1, (0, 0, 0, .null)),
  (1, .ifCond .lt 20, 3, (21, 0, 0, .null)),
  (4, .iload_n 1, 1, (0, 0, 0, .null)),
  (5, .aload_n 0, 1, (0, 0, 0, .null)),
  (6, .getfield 30, 3, (2, 5, 55, .null)),
  (9, .if_icmp .ge 12, 3, (21, 0, 0, .null)),
  (12, .aload_n 0, 1, (0, 0, 0, .null)),
  (13, .getfield 17, 3, (2, 2, 49, .null)),
  (16, .iload_n 1, 1, (0, 0, 0, .null)),
  (17, .iaload, 1, (0, 0, 0, .null)),
  (18, .goto 10, 3, (28, 0, 0, .null)),
  (21, .aload_n 0, 1, (0, 0, 0, .null)),
  (22, .getfield 7, 3, (2, 0, 46, .null)),
  (25, .getfield 34, 3, (1, 1, 32, .null)),
  (28, .ireturn, 1, (0, 0, 0, .null))]
abbrev md_95 : am_M := (⟨"BindingServer$Tokens", "beginAt", "(I)I"⟩, prog_10_method_4_code, 2, some .int, tb_95)
def tb_96 : List am_I := [(0, .iload_n 1, 1, (0, 0, 0, .null)),
  (1, .ifCond .lt 20, 3, (21, 0, 0, .null)),
  (4, .iload_n 1, 1, (0, 0, 0, .null)),
  (5, .aload_n 0, 1, (0, 0, 0, .null)),
  (6, .getfield 30, 3, (2, 5, 55, .null)),
  (9, .if_icmp .ge 12, 3, (21, 0, 0, .null)),
  (12, .aload_n 0, 1, (0, 0, 0, .null)),
  (13, .getfield 20, 3, (2, 3, 51, .null)),
  (16, .iload_n 1, 1, (0, 0, 0, .null)),
  (17, .iaload, 1, (0, 0, 0, .null)),
  (18, .goto 10, 3, (28, 0, 0, .null)),
  (21, .aload_n 0, 1, (0, 0, 0, .null)),
  (22, .getfield 7, 3, (2, 0, 46, .null)),
  (25, .getfield 34, 3, (1, 1, 32, .null)),
  (28, .ireturn, 1, (0, 0, 0, .null))]
abbrev md_96 : am_M := (⟨"BindingServer$Tokens", "endAt", "(I)I"⟩, prog_10_method_5_code, 2, some .int, tb_96)
def tb_97 : List am_I := [(0, .aload_n 0, 1, (0, 0, 0, .null)),
  (1, .iload_n 1, 1, (0, 0, 0, .null)),
  (2, .invokevirtual 39, 3, (94, 1, 667, .ref 2)),
  (5, .istore_n 2, 1, (0, 0, 0, .null)),
  (6, .iload_n 2, 1, (0, 0, 0, .null)),
  (7, .bipush 8, 2, (0, 0, 0, .int 8)),
  (9, .if_icmp .gt 5, 3, (14, 0, 0, .null)),
  (12, .iload_n 2, 1, (0, 0, 0, .null)),
  (13, .ireturn, 1, (0, 0, 0, .null)),
  (14, .iload_n 2, 1, (0, 0, 0, .null)),
  (15, .bipush 29, 2, (0, 0, 0, .int 29)),
  (17, .if_icmp .gt 7, 3, (24, 0, 0, .null)),
  (20, .iconst 2, 1, (0, 0, 0, .int 2)),
  (21, .goto 4, 3, (25, 0, 0, .null)),
  (24, .iconst 3, 1, (0, 0, 0, .int 3)),
  (25, .ireturn, 1, (0, 0, 0, .null))]
abbrev md_97 : am_M := (⟨"BindingServer$Tokens", "kindAt", "(I)I"⟩, prog_10_method_6_code, 3, some .int, tb_97)
def tb_98 : List am_I := [(0, .aload_n 0, 1, (0, 0, 0, .null)),
  (1, .iconst 0, 1, (0, 0, 0, .int 0)),
  (2, .putfield 30, 3, (2, 5, 55, .null)),
  (5, .aload_n 0, 1, (0, 0, 0, .null)),
  (6, .iconst 0, 1, (0, 0, 0, .int 0)),
  (7, .putfield 43, 3, (2, 7, 58, .null)),
  (10, .aload_n 0, 1, (0, 0, 0, .null)),
  (11, .iconst 1, 1, (0, 0, 0, .int 1)),
  (12, .putfield 46, 3, (2, 6, 57, .null)),
  (15, .iconst 0, 1, (0, 0, 0, .int 0)),
  (16, .istore_n 1, 1, (0, 0, 0, .null)),
  (17, .iconst 1, 1, (0, 0, 0, .int 1)),
  (18, .istore_n 2, 1, (0, 0, 0, .null)),
  (19, .iconst 0, 1, (0, 0, 0, .int 0)),
  (20, .istore_n 3, 1, (0, 0, 0, .null)),
  (21, .iload_n 3, 1, (0, 0, 0, .null)),
  (22, .aload_n 0, 1, (0, 0, 0, .null)),
  (23, .getfield 7, 3, (2, 0, 46, .null)),
  (26, .getfield 34, 3, (1, 1, 32, .null)),
  (29, .if_icmp .ge 112, 3, (141, 0, 0, .null)),
  (32, .aload_n 0, 1, (0, 0, 0, .null)),
  (33, .getfield 7, 3, (2, 0, 46, .null)),
  (36, .iload_n 3, 1, (0, 0, 0, .null)),
  (37, .invokevirtual 49, 3, (85, 1, 333, .ref 1)),
  (40, .istore 4, 2, (0, 0, 0, .null)),
  (42, .iload_n 3, 1, (0, 0, 0, .null)),
  (43, .iconst 1, 1, (0, 0, 0, .int 1)),
  (44, .iadd, 1, (0, 0, 0, .null)),
  (45, .istore 5, 2, (0, 0, 0, .null)),
  (47, .iload 4, 2, (0, 0, 0, .null)),
  (49, .bipush 10, 2, (0, 0, 0, .int 10)),
  (51, .if_icmp .ne 23, 3, (74, 0, 0, .null)),
  (54, .aload_n 0, 1, (0, 0, 0, .null)),
  (55, .getfield 43, 3, (2, 7, 58, .null)),
  (58, .ifCond .ne 16, 3, (74, 0, 0, .null)),
  (61, .aload_n 0, 1, (0, 0, 0, .null)),
  (62, .iload_n 2, 1, (0, 0, 0, .null)),
  (63, .invokevirtual 52, 3, (99, 1, 334, .ref 2)),
  (66, .iconst 1, 1, (0, 0, 0, .int 1)),
  (67, .istore_n 2, 1, (0, 0, 0, .null)),
  (68, .iload 5, 2, (0, 0, 0, .null)),
  (70, .istore_n 1, 1, (0, 0, 0, .null)),
  (71, .goto 58, 3, (129, 0, 0, .null)),
  (74, .iload 4, 2, (0, 0, 0, .null)),
  (76, .bipush 35, 2, (0, 0, 0, .int 35)),
  (78, .if_icmp .ne 16, 3, (94, 0, 0, .null)),
  (81, .aload_n 0, 1, (0, 0, 0, .null)),
  (82, .getfield 7, 3, (2, 0, 46, .null)),
  (85, .iload_n 3, 1, (0, 0, 0, .null)),
  (86, .invokevirtual 56, 3, (87, 1, 346, .ref 1)),
  (89, .istore 5, 2, (0, 0, 0, .null)),
  (91, .goto 38, 3, (129, 0, 0, .null)),
  (94, .iload 4, 2, (0, 0, 0, .null)),
  (96, .bipush 10, 2, (0, 0, 0, .int 10)),
  (98, .if_icmp .eq 31, 3, (129, 0, 0, .null)),
  (101, .iload 4, 2, (0, 0, 0, .null)),
  (103, .bipush 32, 2, (0, 0, 0, .int 32)),
  (105, .if_icmp .eq 24, 3, (129, 0, 0, .null)),
  (108, .iload_n 2, 1, (0, 0, 0, .null)),
  (109, .ifCond .eq 11, 3, (120, 0, 0, .null)),
  (112, .aload_n 0, 1, (0, 0, 0, .null)),
  (113, .iload_n 3, 1, (0, 0, 0, .null)),
  (114, .iload_n 1, 1, (0, 0, 0, .null)),
  (115, .isub, 1, (0, 0, 0, .null)),
  (116, .iload_n 3, 1, (0, 0, 0, .null)),
  (117, .invokevirtual 59, 3, (101, 2, 350, .ref 2)),
  (120, .iconst 0, 1, (0, 0, 0, .int 0)),
  (121, .istore_n 2, 1, (0, 0, 0, .null)),
  (122, .aload_n 0, 1, (0, 0, 0, .null)),
  (123, .iload_n 3, 1, (0, 0, 0, .null)),
  (124, .invokevirtual 63, 3, (103, 1, 358, .ref 2)),
  (127, .istore 5, 2, (0, 0, 0, .null)),
  (129, .iload_n 3, 1, (0, 0, 0, .null)),
  (130, .iconst 1, 1, (0, 0, 0, .int 1)),
  (131, .iadd, 1, (0, 0, 0, .null)),
  (132, .iload 5, 2, (0, 0, 0, .null)),
  (134, .invokestatic 66, 3, (1000, 0, 398, .null)),
  (137, .istore_n 3, 1, (0, 0, 0, .null)),
  (138, .goto (-117), 3, (21, 0, 0, .null)),
  (141, .aload_n 0, 1, (0, 0, 0, .null)),
  (142, .iload_n 2, 1, (0, 0, 0, .null)),
  (143, .invokevirtual 52, 3, (99, 1, 334, .ref 2)),
  (146, .aload_n 0, 1, (0, 0, 0, .null)),
  (147, .invokevirtual 72, 3, (100, 0, 401, .ref 2)),
  (150, .return_, 1, (0, 0, 0, .null))]
abbrev md_98 : am_M := (⟨"BindingServer$Tokens", "read", "()V"⟩, prog_10_method_7_code, 6, none, tb_98)
def tb_99 : List am_I := [(0, .iload_n 1, 1, (0, 0, 0, .null)),
  (1, .ifCond .ne 21, 3, (22, 0, 0, .null)),
  (4, .aload_n 0, 1, (0, 0, 0, .null)),
  (5, .aload_n 0, 1, (0, 0, 0, .null)),
  (6, .getfield 30, 3, (2, 5, 55, .null)),
  (9, .iconst 1, 1, (0, 0, 0, .int 1)),
  (10, .isub, 1, (0, 0, 0, .null)),
  (11, .invokevirtual 75, 3, (96, 1, 338, .ref 2)),
  (14, .istore_n 2, 1, (0, 0, 0, .null)),
  (15, .aload_n 0, 1, (0, 0, 0, .null)),
  (16, .iconst 4, 1, (0, 0, 0, .int 4)),
  (17, .iload_n 2, 1, (0, 0, 0, .null)),
  (18, .iload_n 2, 1, (0, 0, 0, .null)),
  (19, .invokevirtual 78, 3, (106, 3, 342, .ref 2)),
  (22, .return_, 1, (0, 0, 0, .null))]
abbrev md_99 : am_M := (⟨"BindingServer$Tokens", "endLine", "(Z)V"⟩, prog_10_method_8_code, 3, none, tb_99)
def tb_100 : List am_I := [(0, .aload_n 0, 1, (0, 0, 0, .null)),
  (1, .getfield 46, 3, (2, 6, 57, .null)),
  (4, .iconst 1, 1, (0, 0, 0, .int 1)),
  (5, .if_icmp .le 36, 3, (41, 0, 0, .null)),
  (8, .aload_n 0, 1, (0, 0, 0, .null)),
  (9, .dup, 1, (0, 0, 0, .null)),
  (10, .getfield 46, 3, (2, 6, 57, .null)),
  (13, .iconst 1, 1, (0, 0, 0, .int 1)),
  (14, .isub, 1, (0, 0, 0, .null)),
  (15, .putfield 46, 3, (2, 6, 57, .null)),
  (18, .aload_n 0, 1, (0, 0, 0, .null)),
  (19, .bipush 6, 2, (0, 0, 0, .int 6)),
  (21, .aload_n 0, 1, (0, 0, 0, .null)),
  (22, .getfield 7, 3, (2, 0, 46, .null)),
  (25, .getfield 34, 3, (1, 1, 32, .null)),
  (28, .aload_n 0, 1, (0, 0, 0, .null)),
  (29, .getfield 7, 3, (2, 0, 46, .null)),
  (32, .getfield 34, 3, (1, 1, 32, .null)),
  (35, .invokevirtual 78, 3, (106, 3, 342, .ref 2)),
  (38, .goto (-38), 3, (0, 0, 0, .null)),
  (41, .aload_n 0, 1, (0, 0, 0, .null)),
  (42, .bipush 7, 2, (0, 0, 0, .int 7)),
  (44, .aload_n 0, 1, (0, 0, 0, .null)),
  (45, .getfield 7, 3, (2, 0, 46, .null)),
  (48, .getfield 34, 3, (1, 1, 32, .null)),
  (51, .aload_n 0, 1, (0, 0, 0, .null)),
  (52, .getfield 7, 3, (2, 0, 46, .null)),
  (55, .getfield 34, 3, (1, 1, 32, .null)),
  (58, .invokevirtual 78, 3, (106, 3, 342, .ref 2)),
  (61, .return_, 1, (0, 0, 0, .null))]
abbrev md_100 : am_M := (⟨"BindingServer$Tokens", "endText", "()V"⟩, prog_10_method_9_code, 1, none, tb_100)
def tb_101 : List am_I := [(0, .iload_n 1, 1, (0, 0, 0, .null)),
  (1, .aload_n 0, 1, (0, 0, 0, .null)),
  (2, .invokevirtual 82, 3, (102, 0, 354, .ref 2)),
  (5, .if_icmp .le 40, 3, (45, 0, 0, .null)),
  (8, .aload_n 0, 1, (0, 0, 0, .null)),
  (9, .getfield 46, 3, (2, 6, 57, .null)),
  (12, .bipush 24, 2, (0, 0, 0, .int 24)),
  (14, .if_icmp .ge 23, 3, (37, 0, 0, .null)),
  (17, .aload_n 0, 1, (0, 0, 0, .null)),
  (18, .getfield 23, 3, (2, 4, 53, .null)),
  (21, .aload_n 0, 1, (0, 0, 0, .null)),
  (22, .getfield 46, 3, (2, 6, 57, .null)),
  (25, .iload_n 1, 1, (0, 0, 0, .null)),
  (26, .iastore, 1, (0, 0, 0, .null)),
  (27, .aload_n 0, 1, (0, 0, 0, .null)),
  (28, .dup, 1, (0, 0, 0, .null)),
  (29, .getfield 46, 3, (2, 6, 57, .null)),
  (32, .iconst 1, 1, (0, 0, 0, .int 1)),
  (33, .iadd, 1, (0, 0, 0, .null)),
  (34, .putfield 46, 3, (2, 6, 57, .null)),
  (37, .aload_n 0, 1, (0, 0, 0, .null)),
  (38, .iconst 5, 1, (0, 0, 0, .int 5)),
  (39, .iload_n 2, 1, (0, 0, 0, .null)),
  (40, .iload_n 2, 1, (0, 0, 0, .null)),
  (41, .invokevirtual 78, 3, (106, 3, 342, .ref 2)),
  (44, .return_, 1, (0, 0, 0, .null)),
  (45, .aload_n 0, 1, (0, 0, 0, .null)),
  (46, .getfield 46, 3, (2, 6, 57, .null)),
  (49, .iconst 1, 1, (0, 0, 0, .int 1)),
  (50, .if_icmp .le 39, 3, (89, 0, 0, .null)),
  (53, .aload_n 0, 1, (0, 0, 0, .null)),
  (54, .getfield 23, 3, (2, 4, 53, .null)),
  (57, .aload_n 0, 1, (0, 0, 0, .null)),
  (58, .getfield 46, 3, (2, 6, 57, .null)),
  (61, .iconst 1, 1, (0, 0, 0, .int 1)),
  (62, .isub, 1, (0, 0, 0, .null)),
  (63, .iaload, 1, (0, 0, 0, .null)),
  (64, .iload_n 1, 1, (0, 0, 0, .null)),
  (65, .if_icmp .le 24, 3, (89, 0, 0, .null)),
  (68, .aload_n 0, 1, (0, 0, 0, .null)),
  (69, .dup, 1, (0, 0, 0, .null)),
  (70, .getfield 46, 3, (2, 6, 57, .null)),
  (73, .iconst 1, 1, (0, 0, 0, .int 1)),
  (74, .isub, 1, (0, 0, 0, .null)),
  (75, .putfield 46, 3, (2, 6, 57, .null)),
  (78, .aload_n 0, 1, (0, 0, 0, .null)),
  (79, .bipush 6, 2, (0, 0, 0, .int 6)),
  (81, .iload_n 2, 1, (0, 0, 0, .null)),
  (82, .iload_n 2, 1, (0, 0, 0, .null)),
  (83, .invokevirtual 78, 3, (106, 3, 342, .ref 2)),
  (86, .goto (-41), 3, (45, 0, 0, .null)),
  (89, .aload_n 0, 1, (0, 0, 0, .null)),
  (90, .invokevirtual 82, 3, (102, 0, 354, .ref 2)),
  (93, .iload_n 1, 1, (0, 0, 0, .null)),
  (94, .if_icmp .eq 11, 3, (105, 0, 0, .null)),
  (97, .aload_n 0, 1, (0, 0, 0, .null)),
  (98, .bipush 8, 2, (0, 0, 0, .int 8)),
  (100, .iload_n 2, 1, (0, 0, 0, .null)),
  (101, .iload_n 2, 1, (0, 0, 0, .null)),
  (102, .invokevirtual 78, 3, (106, 3, 342, .ref 2)),
  (105, .return_, 1, (0, 0, 0, .null))]
abbrev md_101 : am_M := (⟨"BindingServer$Tokens", "beginLine", "(II)V"⟩, prog_10_method_10_code, 3, none, tb_101)
def tb_102 : List am_I := [(0, .aload_n 0, 1, (0, 0, 0, .null)),
  (1, .getfield 46, 3, (2, 6, 57, .null)),
  (4, .iconst 1, 1, (0, 0, 0, .int 1)),
  (5, .if_icmp .le 17, 3, (22, 0, 0, .null)),
  (8, .aload_n 0, 1, (0, 0, 0, .null)),
  (9, .getfield 23, 3, (2, 4, 53, .null)),
  (12, .aload_n 0, 1, (0, 0, 0, .null)),
  (13, .getfield 46, 3, (2, 6, 57, .null)),
  (16, .iconst 1, 1, (0, 0, 0, .int 1)),
  (17, .isub, 1, (0, 0, 0, .null)),
  (18, .iaload, 1, (0, 0, 0, .null)),
  (19, .goto 4, 3, (23, 0, 0, .null)),
  (22, .iconst 0, 1, (0, 0, 0, .int 0)),
  (23, .ireturn, 1, (0, 0, 0, .null))]
abbrev md_102 : am_M := (⟨"BindingServer$Tokens", "lastIndent", "()I"⟩, prog_10_method_11_code, 1, some .int, tb_102)
def tb_103 : List am_I := [(0, .aload_n 0, 1, (0, 0, 0, .null)),
  (1, .getfield 7, 3, (2, 0, 46, .null)),
  (4, .iload_n 1, 1, (0, 0, 0, .null)),
  (5, .invokevirtual 49, 3, (85, 1, 333, .ref 1)),
  (8, .istore_n 2, 1, (0, 0, 0, .null)),
  (9, .iload_n 1, 1, (0, 0, 0, .null)),
  (10, .iconst 1, 1, (0, 0, 0, .int 1)),
  (11, .iadd, 1, (0, 0, 0, .null)),
  (12, .istore_n 3, 1, (0, 0, 0, .null)),
  (13, .bipush 8, 2, (0, 0, 0, .int 8)),
  (15, .istore 4, 2, (0, 0, 0, .null)),
  (17, .iload_n 2, 1, (0, 0, 0, .null)),
  (18, .invokestatic 86, 3, (83, 1, 362, .null)),
  (21, .ifCond .eq 29, 3, (50, 0, 0, .null)),
  (24, .aload_n 0, 1, (0, 0, 0, .null)),
  (25, .getfield 7, 3, (2, 0, 46, .null)),
  (28, .iload_n 1, 1, (0, 0, 0, .null)),
  (29, .invokevirtual 90, 3, (89, 1, 365, .ref 1)),
  (32, .istore_n 3, 1, (0, 0, 0, .null)),
  (33, .aload_n 0, 1, (0, 0, 0, .null)),
  (34, .getfield 7, 3, (2, 0, 46, .null)),
  (37, .iload_n 1, 1, (0, 0, 0, .null)),
  (38, .iload_n 3, 1, (0, 0, 0, .null)),
  (39, .invokevirtual 93, 3, (91, 2, 376, .ref 1)),
  (42, .invokestatic 97, 3, (93, 1, 381, .null)),
  (45, .istore 4, 2, (0, 0, 0, .null)),
  (47, .goto 73, 3, (120, 0, 0, .null)),
  (50, .iload_n 2, 1, (0, 0, 0, .null)),
  (51, .invokestatic 101, 3, (82, 1, 386, .null)),
  (54, .ifCond .eq 18, 3, (72, 0, 0, .null)),
  (57, .aload_n 0, 1, (0, 0, 0, .null)),
  (58, .getfield 7, 3, (2, 0, 46, .null)),
  (61, .iload_n 1, 1, (0, 0, 0, .null)),
  (62, .invokevirtual 104, 3, (88, 1, 387, .ref 1)),
  (65, .istore_n 3, 1, (0, 0, 0, .null)),
  (66, .iconst 1, 1, (0, 0, 0, .int 1)),
  (67, .istore 4, 2, (0, 0, 0, .null)),
  (69, .goto 51, 3, (120, 0, 0, .null)),
  (72, .iload_n 2, 1, (0, 0, 0, .null)),
  (73, .bipush 58, 2, (0, 0, 0, .int 58)),
  (75, .if_icmp .ne 30, 3, (105, 0, 0, .null)),
  (78, .aload_n 0, 1, (0, 0, 0, .null)),
  (79, .getfield 7, 3, (2, 0, 46, .null)),
  (82, .iload_n 1, 1, (0, 0, 0, .null)),
  (83, .iconst 1, 1, (0, 0, 0, .int 1)),
  (84, .iadd, 1, (0, 0, 0, .null)),
  (85, .invokevirtual 49, 3, (85, 1, 333, .ref 1)),
  (88, .bipush 61, 2, (0, 0, 0, .int 61)),
  (90, .if_icmp .ne 15, 3, (105, 0, 0, .null)),
  (93, .iload_n 1, 1, (0, 0, 0, .null)),
  (94, .iconst 2, 1, (0, 0, 0, .int 2)),
  (95, .iadd, 1, (0, 0, 0, .null)),
  (96, .istore_n 3, 1, (0, 0, 0, .null)),
  (97, .sipush 128, 3, (0, 0, 0, .int 128)),
  (100, .istore 4, 2, (0, 0, 0, .null)),
  (102, .goto 18, 3, (120, 0, 0, .null)),
  (105, .iload_n 2, 1, (0, 0, 0, .null)),
  (106, .invokestatic 107, 3, (104, 1, 391, .null)),
  (109, .ifCond .eq 11, 3, (120, 0, 0, .null)),
  (112, .iload_n 2, 1, (0, 0, 0, .null)),
  (113, .istore 4, 2, (0, 0, 0, .null)),
  (115, .aload_n 0, 1, (0, 0, 0, .null)),
  (116, .iload_n 2, 1, (0, 0, 0, .null)),
  (117, .invokevirtual 110, 3, (105, 1, 394, .ref 2)),
  (120, .aload_n 0, 1, (0, 0, 0, .null)),
  (121, .iload 4, 2, (0, 0, 0, .null)),
  (123, .iload_n 1, 1, (0, 0, 0, .null)),
  (124, .iload_n 3, 1, (0, 0, 0, .null)),
  (125, .invokevirtual 78, 3, (106, 3, 342, .ref 2)),
  (128, .iload_n 3, 1, (0, 0, 0, .null)),
  (129, .ireturn, 1, (0, 0, 0, .null))]
abbrev md_103 : am_M := (⟨"BindingServer$Tokens", "readOne", "(I)I"⟩, prog_10_method_12_code, 5, some .int, tb_103)
def tb_104 : List am_I := [(0, .iload_n 0, 1, (0, 0, 0, .null)),
  (1, .lookupswitch 77 #[(40, 75), (41, 75), (43, 75), (44, 75), (58, 75), (61, 75), (91, 75), (93, 75)], 75, (0, 0, 0, .null)),
  (76, .iconst 1, 1, (0, 0, 0, .int 1)),
  (77, .ireturn, 1, (0, 0, 0, .null)),
  (78, .iconst 0, 1, (0, 0, 0, .int 0)),
  (79, .ireturn, 1, (0, 0, 0, .null))]
abbrev md_104 : am_M := (⟨"BindingServer$Tokens", "isSign", "(I)Z"⟩, prog_10_method_13_code, 1, some .boolean, tb_104)
def tb_105 : List am_I := [(0, .iload_n 1, 1, (0, 0, 0, .null)),
  (1, .bipush 40, 2, (0, 0, 0, .int 40)),
  (3, .if_icmp .eq 9, 3, (12, 0, 0, .null)),
  (6, .iload_n 1, 1, (0, 0, 0, .null)),
  (7, .bipush 91, 2, (0, 0, 0, .int 91)),
  (9, .if_icmp .ne 16, 3, (25, 0, 0, .null)),
  (12, .aload_n 0, 1, (0, 0, 0, .null)),
  (13, .dup, 1, (0, 0, 0, .null)),
  (14, .getfield 43, 3, (2, 7, 58, .null)),
  (17, .iconst 1, 1, (0, 0, 0, .int 1)),
  (18, .iadd, 1, (0, 0, 0, .null)),
  (19, .putfield 43, 3, (2, 7, 58, .null)),
  (22, .goto 32, 3, (54, 0, 0, .null)),
  (25, .iload_n 1, 1, (0, 0, 0, .null)),
  (26, .bipush 41, 2, (0, 0, 0, .int 41)),
  (28, .if_icmp .eq 9, 3, (37, 0, 0, .null)),
  (31, .iload_n 1, 1, (0, 0, 0, .null)),
  (32, .bipush 93, 2, (0, 0, 0, .int 93)),
  (34, .if_icmp .ne 20, 3, (54, 0, 0, .null)),
  (37, .aload_n 0, 1, (0, 0, 0, .null)),
  (38, .getfield 43, 3, (2, 7, 58, .null)),
  (41, .ifCond .le 13, 3, (54, 0, 0, .null)),
  (44, .aload_n 0, 1, (0, 0, 0, .null)),
  (45, .dup, 1, (0, 0, 0, .null)),
  (46, .getfield 43, 3, (2, 7, 58, .null)),
  (49, .iconst 1, 1, (0, 0, 0, .int 1)),
  (50, .isub, 1, (0, 0, 0, .null)),
  (51, .putfield 43, 3, (2, 7, 58, .null)),
  (54, .return_, 1, (0, 0, 0, .null))]
abbrev md_105 : am_M := (⟨"BindingServer$Tokens", "countOpen", "(I)V"⟩, prog_10_method_14_code, 2, none, tb_105)
def tb_106 : List am_I := [(0, .aload_n 0, 1, (0, 0, 0, .null)),
  (1, .getfield 30, 3, (2, 5, 55, .null)),
  (4, .sipush 272, 3, (0, 0, 0, .int 272)),
  (7, .if_icmp .ge 43, 3, (50, 0, 0, .null)),
  (10, .aload_n 0, 1, (0, 0, 0, .null)),
  (11, .getfield 13, 3, (2, 1, 47, .null)),
  (14, .aload_n 0, 1, (0, 0, 0, .null)),
  (15, .getfield 30, 3, (2, 5, 55, .null)),
  (18, .iload_n 1, 1, (0, 0, 0, .null)),
  (19, .iastore, 1, (0, 0, 0, .null)),
  (20, .aload_n 0, 1, (0, 0, 0, .null)),
  (21, .getfield 17, 3, (2, 2, 49, .null)),
  (24, .aload_n 0, 1, (0, 0, 0, .null)),
  (25, .getfield 30, 3, (2, 5, 55, .null)),
  (28, .iload_n 2, 1, (0, 0, 0, .null)),
  (29, .iastore, 1, (0, 0, 0, .null)),
  (30, .aload_n 0, 1, (0, 0, 0, .null)),
  (31, .getfield 20, 3, (2, 3, 51, .null)),
  (34, .aload_n 0, 1, (0, 0, 0, .null)),
  (35, .getfield 30, 3, (2, 5, 55, .null)),
  (38, .iload_n 3, 1, (0, 0, 0, .null)),
  (39, .iastore, 1, (0, 0, 0, .null)),
  (40, .aload_n 0, 1, (0, 0, 0, .null)),
  (41, .dup, 1, (0, 0, 0, .null)),
  (42, .getfield 30, 3, (2, 5, 55, .null)),
  (45, .iconst 1, 1, (0, 0, 0, .int 1)),
  (46, .iadd, 1, (0, 0, 0, .null)),
  (47, .putfield 30, 3, (2, 5, 55, .null)),
  (50, .return_, 1, (0, 0, 0, .null))]
abbrev md_106 : am_M := (⟨"BindingServer$Tokens", "add", "(III)V"⟩, prog_10_method_15_code, 4, none, tb_106)
def tb_107 : List am_I := [(0, .iconst 0, 1, (0, 0, 0, .int 0)),
  (1, .istore_n 2, 1, (0, 0, 0, .null)),
  (2, .iload_n 1, 1, (0, 0, 0, .null)),
  (3, .iconst 1, 1, (0, 0, 0, .int 1)),
  (4, .iadd, 1, (0, 0, 0, .null)),
  (5, .istore_n 3, 1, (0, 0, 0, .null)),
  (6, .iload_n 3, 1, (0, 0, 0, .null)),
  (7, .aload_n 0, 1, (0, 0, 0, .null)),
  (8, .getfield 30, 3, (2, 5, 55, .null)),
  (11, .if_icmp .ge 73, 3, (84, 0, 0, .null)),
  (14, .aload_n 0, 1, (0, 0, 0, .null)),
  (15, .getfield 13, 3, (2, 1, 47, .null)),
  (18, .iload_n 3, 1, (0, 0, 0, .null)),
  (19, .iaload, 1, (0, 0, 0, .null)),
  (20, .istore 4, 2, (0, 0, 0, .null)),
  (22, .iload 4, 2, (0, 0, 0, .null)),
  (24, .bipush 40, 2, (0, 0, 0, .int 40)),
  (26, .if_icmp .eq 10, 3, (36, 0, 0, .null)),
  (29, .iload 4, 2, (0, 0, 0, .null)),
  (31, .bipush 91, 2, (0, 0, 0, .int 91)),
  (33, .if_icmp .ne 9, 3, (42, 0, 0, .null)),
  (36, .iinc 2 1, 3, (0, 0, 0, .null)),
  (39, .goto 20, 3, (59, 0, 0, .null)),
  (42, .iload 4, 2, (0, 0, 0, .null)),
  (44, .bipush 41, 2, (0, 0, 0, .int 41)),
  (46, .if_icmp .eq 10, 3, (56, 0, 0, .null)),
  (49, .iload 4, 2, (0, 0, 0, .null)),
  (51, .bipush 93, 2, (0, 0, 0, .int 93)),
  (53, .if_icmp .ne 6, 3, (59, 0, 0, .null)),
  (56, .iinc 2 (-1), 3, (0, 0, 0, .null)),
  (59, .iload_n 2, 1, (0, 0, 0, .null)),
  (60, .ifCond .ge 5, 3, (65, 0, 0, .null)),
  (63, .iconst 0, 1, (0, 0, 0, .int 0)),
  (64, .ireturn, 1, (0, 0, 0, .null)),
  (65, .iload_n 2, 1, (0, 0, 0, .null)),
  (66, .ifCond .ne 12, 3, (78, 0, 0, .null)),
  (69, .iload 4, 2, (0, 0, 0, .null)),
  (71, .bipush 20, 2, (0, 0, 0, .int 20)),
  (73, .if_icmp .ne 5, 3, (78, 0, 0, .null)),
  (76, .iconst 1, 1, (0, 0, 0, .int 1)),
  (77, .ireturn, 1, (0, 0, 0, .null)),
  (78, .iinc 3 1, 3, (0, 0, 0, .null)),
  (81, .goto (-75), 3, (6, 0, 0, .null)),
  (84, .iconst 0, 1, (0, 0, 0, .int 0)),
  (85, .ireturn, 1, (0, 0, 0, .null))]
abbrev md_107 : am_M := (⟨"BindingServer$Tokens", "beginsComprehension", "(I)Z"⟩, prog_10_method_16_code, 5, some .boolean, tb_107)
def tb_108 : List am_I := [(0, .aload_n 0, 1, (0, 0, 0, .null)),
  (1, .invokespecial 1, 3, (1002, 0, 19, .null)),
  (4, .aload_n 0, 1, (0, 0, 0, .null)),
  (5, .new 7, 3, (1, 0, 22, .null)),
  (8, .dup, 1, (0, 0, 0, .null)),
  (9, .invokespecial 9, 3, (80, 0, 24, .null)),
  (12, .putfield 10, 3, (0, 0, 256, .null)),
  (15, .aload_n 0, 1, (0, 0, 0, .null)),
  (16, .new 16, 3, (2, 0, 40, .null)),
  (19, .dup, 1, (0, 0, 0, .null)),
  (20, .aload_n 0, 1, (0, 0, 0, .null)),
  (21, .getfield 10, 3, (0, 0, 256, .null)),
  (24, .invokespecial 18, 3, (92, 1, 42, .null)),
  (27, .putfield 21, 3, (0, 1, 257, .null)),
  (30, .aload_n 0, 1, (0, 0, 0, .null)),
  (31, .new 25, 3, (3, 0, 77, .null)),
  (34, .dup, 1, (0, 0, 0, .null)),
  (35, .invokespecial 27, 3, (23, 0, 79, .null)),
  (38, .putfield 28, 3, (0, 2, 258, .null)),
  (41, .aload_n 0, 1, (0, 0, 0, .null)),
  (42, .new 32, 3, (4, 0, 94, .null)),
  (45, .dup, 1, (0, 0, 0, .null)),
  (46, .invokespecial 34, 3, (68, 0, 96, .null)),
  (49, .putfield 35, 3, (0, 3, 259, .null)),
  (52, .aload_n 0, 1, (0, 0, 0, .null)),
  (53, .new 39, 3, (5, 0, 115, .null)),
  (56, .dup, 1, (0, 0, 0, .null)),
  (57, .invokespecial 41, 3, (28, 0, 117, .null)),
  (60, .putfield 42, 3, (0, 4, 260, .null)),
  (63, .aload_n 0, 1, (0, 0, 0, .null)),
  (64, .new 46, 3, (6, 0, 161, .null)),
  (67, .dup, 1, (0, 0, 0, .null)),
  (68, .aload_n 0, 1, (0, 0, 0, .null)),
  (69, .getfield 21, 3, (0, 1, 257, .null)),
  (72, .aload_n 0, 1, (0, 0, 0, .null)),
  (73, .getfield 35, 3, (0, 3, 259, .null)),
  (76, .aload_n 0, 1, (0, 0, 0, .null)),
  (77, .getfield 42, 3, (0, 4, 260, .null)),
  (80, .aload_n 0, 1, (0, 0, 0, .null)),
  (81, .getfield 28, 3, (0, 2, 258, .null)),
  (84, .invokespecial 48, 3, (39, 4, 163, .null)),
  (87, .putfield 51, 3, (0, 5, 261, .null)),
  (90, .aload_n 0, 1, (0, 0, 0, .null)),
  (91, .new 55, 3, (7, 0, 210, .null)),
  (94, .dup, 1, (0, 0, 0, .null)),
  (95, .aload_n 0, 1, (0, 0, 0, .null)),
  (96, .getfield 10, 3, (0, 0, 256, .null)),
  (99, .aload_n 0, 1, (0, 0, 0, .null)),
  (100, .getfield 35, 3, (0, 3, 259, .null)),
  (103, .aload_n 0, 1, (0, 0, 0, .null)),
  (104, .getfield 42, 3, (0, 4, 260, .null)),
  (107, .invokespecial 57, 3, (1, 3, 212, .null)),
  (110, .putfield 60, 3, (0, 6, 262, .null)),
  (113, .aload_n 0, 1, (0, 0, 0, .null)),
  (114, .new 64, 3, (8, 0, 234, .null)),
  (117, .dup, 1, (0, 0, 0, .null)),
  (118, .invokespecial 66, 3, (76, 0, 236, .null)),
  (121, .putfield 67, 3, (0, 7, 263, .null)),
  (124, .aload_n 0, 1, (0, 0, 0, .null)),
  (125, .iconst 1, 1, (0, 0, 0, .int 1)),
  (126, .putfield 71, 3, (0, 8, 264, .null)),
  (129, .return_, 1, (0, 0, 0, .null))]
abbrev md_108 : am_M := (⟨"BindingServer", "<init>", "()V"⟩, prog_1_method_1_code, 1, none, tb_108)
def tb_109 : List am_I := [(0, .iload_n 1, 1, (0, 0, 0, .null)),
  (1, .ifCond .lt 31, 3, (32, 0, 0, .null)),
  (4, .iload_n 1, 1, (0, 0, 0, .null)),
  (5, .aload_n 0, 1, (0, 0, 0, .null)),
  (6, .getfield 10, 3, (0, 0, 256, .null)),
  (9, .getfield 75, 3, (1, 1, 30, .null)),
  (12, .if_icmp .gt 20, 3, (32, 0, 0, .null)),
  (15, .iload_n 2, 1, (0, 0, 0, .null)),
  (16, .ifCond .lt 16, 3, (32, 0, 0, .null)),
  (19, .iload_n 2, 1, (0, 0, 0, .null)),
  (20, .aload_n 0, 1, (0, 0, 0, .null)),
  (21, .getfield 10, 3, (0, 0, 256, .null)),
  (24, .getfield 75, 3, (1, 1, 30, .null)),
  (27, .iload_n 1, 1, (0, 0, 0, .null)),
  (28, .isub, 1, (0, 0, 0, .null)),
  (29, .if_icmp .le 5, 3, (34, 0, 0, .null)),
  (32, .iconst (-1), 1, (0, 0, 0, .int (-1))),
  (33, .ireturn, 1, (0, 0, 0, .null)),
  (34, .lload_n 3, 1, (0, 0, 0, .null)),
  (35, .invokestatic 79, 3, (21, 1, 288, .null)),
  (38, .ifCond .ne 5, 3, (43, 0, 0, .null)),
  (41, .iconst (-1), 1, (0, 0, 0, .int (-1))),
  (42, .ireturn, 1, (0, 0, 0, .null)),
  (43, .aload_n 0, 1, (0, 0, 0, .null)),
  (44, .getfield 10, 3, (0, 0, 256, .null)),
  (47, .getfield 75, 3, (1, 1, 30, .null)),
  (50, .iload_n 2, 1, (0, 0, 0, .null)),
  (51, .isub, 1, (0, 0, 0, .null)),
  (52, .lload_n 3, 1, (0, 0, 0, .null)),
  (53, .invokestatic 85, 3, (20, 1, 297, .null)),
  (56, .iadd, 1, (0, 0, 0, .null)),
  (57, .sipush 200, 3, (0, 0, 0, .int 200)),
  (60, .if_icmp .le 6, 3, (66, 0, 0, .null)),
  (63, .bipush (-2), 2, (0, 0, 0, .int (-2))),
  (65, .ireturn, 1, (0, 0, 0, .null)),
  (66, .aload_n 0, 1, (0, 0, 0, .null)),
  (67, .getfield 10, 3, (0, 0, 256, .null)),
  (70, .iload_n 1, 1, (0, 0, 0, .null)),
  (71, .iload_n 2, 1, (0, 0, 0, .null)),
  (72, .lload_n 3, 1, (0, 0, 0, .null)),
  (73, .invokevirtual 88, 3, (86, 3, 300, .ref 1)),
  (76, .aload_n 0, 1, (0, 0, 0, .null)),
  (77, .iconst 1, 1, (0, 0, 0, .int 1)),
  (78, .putfield 71, 3, (0, 8, 264, .null)),
  (81, .aload_n 0, 1, (0, 0, 0, .null)),
  (82, .getfield 10, 3, (0, 0, 256, .null)),
  (85, .getfield 75, 3, (1, 1, 30, .null)),
  (88, .ireturn, 1, (0, 0, 0, .null))]
abbrev md_109 : am_M := (⟨"BindingServer", "edit", "(IIJ)I"⟩, prog_1_method_2_code, 5, some .int, tb_109)
def tb_110 : List am_I := [(0, .aload_n 0, 1, (0, 0, 0, .null)),
  (1, .getfield 10, 3, (0, 0, 256, .null)),
  (4, .getfield 75, 3, (1, 1, 30, .null)),
  (7, .ireturn, 1, (0, 0, 0, .null))]
abbrev md_110 : am_M := (⟨"BindingServer", "length", "()I"⟩, prog_1_method_3_code, 1, some .int, tb_110)
def tb_111 : List am_I := [(0, .aload_n 0, 1, (0, 0, 0, .null)),
  (1, .getfield 10, 3, (0, 0, 256, .null)),
  (4, .iload_n 1, 1, (0, 0, 0, .null)),
  (5, .invokevirtual 92, 3, (85, 1, 317, .ref 1)),
  (8, .ireturn, 1, (0, 0, 0, .null))]
abbrev md_111 : am_M := (⟨"BindingServer", "character", "(I)I"⟩, prog_1_method_4_code, 2, some .int, tb_111)
def tb_112 : List am_I := [(0, .aload_n 0, 1, (0, 0, 0, .null)),
  (1, .invokevirtual 96, 3, (126, 0, 325, .ref 0)),
  (4, .aload_n 0, 1, (0, 0, 0, .null)),
  (5, .getfield 21, 3, (0, 1, 257, .null)),
  (8, .getfield 99, 3, (2, 5, 56, .null)),
  (11, .ireturn, 1, (0, 0, 0, .null))]
abbrev md_112 : am_M := (⟨"BindingServer", "tokens", "()I"⟩, prog_1_method_5_code, 1, some .int, tb_112)
def tb_113 : List am_I := [(0, .aload_n 0, 1, (0, 0, 0, .null)),
  (1, .invokevirtual 96, 3, (126, 0, 325, .ref 0)),
  (4, .iload_n 1, 1, (0, 0, 0, .null)),
  (5, .ifCond .lt 14, 3, (19, 0, 0, .null)),
  (8, .iload_n 1, 1, (0, 0, 0, .null)),
  (9, .aload_n 0, 1, (0, 0, 0, .null)),
  (10, .getfield 21, 3, (0, 1, 257, .null)),
  (13, .getfield 99, 3, (2, 5, 56, .null)),
  (16, .if_icmp .lt 5, 3, (21, 0, 0, .null)),
  (19, .iconst (-1), 1, (0, 0, 0, .int (-1))),
  (20, .ireturn, 1, (0, 0, 0, .null)),
  (21, .aload_n 0, 1, (0, 0, 0, .null)),
  (22, .getfield 21, 3, (0, 1, 257, .null)),
  (25, .iload_n 1, 1, (0, 0, 0, .null)),
  (26, .invokevirtual 102, 3, (97, 1, 663, .ref 2)),
  (29, .bipush 16, 2, (0, 0, 0, .int 16)),
  (31, .aload_n 0, 1, (0, 0, 0, .null)),
  (32, .getfield 21, 3, (0, 1, 257, .null)),
  (35, .iload_n 1, 1, (0, 0, 0, .null)),
  (36, .invokevirtual 105, 3, (95, 1, 668, .ref 2)),
  (39, .imul, 1, (0, 0, 0, .null)),
  (40, .iadd, 1, (0, 0, 0, .null)),
  (41, .sipush 4096, 3, (0, 0, 0, .int 4096)),
  (44, .aload_n 0, 1, (0, 0, 0, .null)),
  (45, .getfield 21, 3, (0, 1, 257, .null)),
  (48, .iload_n 1, 1, (0, 0, 0, .null)),
  (49, .invokevirtual 108, 3, (96, 1, 672, .ref 2)),
  (52, .imul, 1, (0, 0, 0, .null)),
  (53, .iadd, 1, (0, 0, 0, .null)),
  (54, .ireturn, 1, (0, 0, 0, .null))]
abbrev md_113 : am_M := (⟨"BindingServer", "token", "(I)I"⟩, prog_1_method_6_code, 2, some .int, tb_113)
def tb_114 : List am_I := [(0, .aload_n 0, 1, (0, 0, 0, .null)),
  (1, .invokevirtual 96, 3, (126, 0, 325, .ref 0)),
  (4, .aload_n 0, 1, (0, 0, 0, .null)),
  (5, .invokevirtual 111, 3, (127, 0, 554, .ref 0)),
  (8, .ifCond .eq 13, 3, (21, 0, 0, .null)),
  (11, .aload_n 0, 1, (0, 0, 0, .null)),
  (12, .getfield 60, 3, (0, 6, 262, .null)),
  (15, .getfield 115, 3, (7, 3, 220, .null)),
  (18, .goto 10, 3, (28, 0, 0, .null)),
  (21, .aload_n 0, 1, (0, 0, 0, .null)),
  (22, .getfield 51, 3, (0, 5, 261, .null)),
  (25, .getfield 118, 3, (6, 10, 178, .null)),
  (28, .ireturn, 1, (0, 0, 0, .null))]
abbrev md_114 : am_M := (⟨"BindingServer", "check", "()I"⟩, prog_1_method_7_code, 1, some .int, tb_114)
def tb_115 : List am_I := [(0, .aload_n 0, 1, (0, 0, 0, .null)),
  (1, .invokevirtual 96, 3, (126, 0, 325, .ref 0)),
  (4, .aload_n 0, 1, (0, 0, 0, .null)),
  (5, .invokevirtual 111, 3, (127, 0, 554, .ref 0)),
  (8, .ifCond .eq 13, 3, (21, 0, 0, .null)),
  (11, .aload_n 0, 1, (0, 0, 0, .null)),
  (12, .getfield 60, 3, (0, 6, 262, .null)),
  (15, .getfield 121, 3, (7, 4, 222, .null)),
  (18, .goto 10, 3, (28, 0, 0, .null)),
  (21, .aload_n 0, 1, (0, 0, 0, .null)),
  (22, .getfield 51, 3, (0, 5, 261, .null)),
  (25, .getfield 124, 3, (6, 11, 180, .null)),
  (28, .ireturn, 1, (0, 0, 0, .null))]
abbrev md_115 : am_M := (⟨"BindingServer", "place", "()I"⟩, prog_1_method_8_code, 1, some .int, tb_115)
def tb_116 : List am_I := [(0, .aload_n 0, 1, (0, 0, 0, .null)),
  (1, .invokevirtual 96, 3, (126, 0, 325, .ref 0)),
  (4, .aload_n 0, 1, (0, 0, 0, .null)),
  (5, .invokevirtual 111, 3, (127, 0, 554, .ref 0)),
  (8, .ifCond .eq 15, 3, (23, 0, 0, .null)),
  (11, .aload_n 0, 1, (0, 0, 0, .null)),
  (12, .getfield 28, 3, (0, 2, 258, .null)),
  (15, .iload_n 1, 1, (0, 0, 0, .null)),
  (16, .iload_n 2, 1, (0, 0, 0, .null)),
  (17, .invokevirtual 127, 3, (25, 2, 685, .ref 3)),
  (20, .goto 4, 3, (24, 0, 0, .null)),
  (23, .iconst (-1), 1, (0, 0, 0, .int (-1))),
  (24, .ireturn, 1, (0, 0, 0, .null))]
abbrev md_116 : am_M := (⟨"BindingServer", "extent", "(II)I"⟩, prog_1_method_9_code, 3, some .int, tb_116)
def tb_117 : List am_I := [(0, .aload_n 0, 1, (0, 0, 0, .null)),
  (1, .invokevirtual 96, 3, (126, 0, 325, .ref 0)),
  (4, .aload_n 0, 1, (0, 0, 0, .null)),
  (5, .invokevirtual 111, 3, (127, 0, 554, .ref 0)),
  (8, .ifCond .eq 13, 3, (21, 0, 0, .null)),
  (11, .aload_n 0, 1, (0, 0, 0, .null)),
  (12, .getfield 35, 3, (0, 3, 259, .null)),
  (15, .getfield 131, 3, (4, 3, 104, .null)),
  (18, .goto 4, 3, (22, 0, 0, .null)),
  (21, .iconst (-1), 1, (0, 0, 0, .int (-1))),
  (22, .ireturn, 1, (0, 0, 0, .null))]
abbrev md_117 : am_M := (⟨"BindingServer", "scopes", "()I"⟩, prog_1_method_10_code, 1, some .int, tb_117)
def tb_118 : List am_I := [(0, .aload_n 0, 1, (0, 0, 0, .null)),
  (1, .invokevirtual 96, 3, (126, 0, 325, .ref 0)),
  (4, .aload_n 0, 1, (0, 0, 0, .null)),
  (5, .invokevirtual 111, 3, (127, 0, 554, .ref 0)),
  (8, .ifCond .eq 18, 3, (26, 0, 0, .null)),
  (11, .iload_n 1, 1, (0, 0, 0, .null)),
  (12, .ifCond .lt 14, 3, (26, 0, 0, .null)),
  (15, .iload_n 1, 1, (0, 0, 0, .null)),
  (16, .aload_n 0, 1, (0, 0, 0, .null)),
  (17, .getfield 35, 3, (0, 3, 259, .null)),
  (20, .getfield 131, 3, (4, 3, 104, .null)),
  (23, .if_icmp .lt 5, 3, (28, 0, 0, .null)),
  (26, .iconst (-1), 1, (0, 0, 0, .int (-1))),
  (27, .ireturn, 1, (0, 0, 0, .null)),
  (28, .aload_n 0, 1, (0, 0, 0, .null)),
  (29, .getfield 35, 3, (0, 3, 259, .null)),
  (32, .iload_n 1, 1, (0, 0, 0, .null)),
  (33, .invokevirtual 132, 3, (71, 1, 705, .ref 4)),
  (36, .bipush 8, 2, (0, 0, 0, .int 8)),
  (38, .aload_n 0, 1, (0, 0, 0, .null)),
  (39, .getfield 35, 3, (0, 3, 259, .null)),
  (42, .iload_n 1, 1, (0, 0, 0, .null)),
  (43, .invokevirtual 135, 3, (72, 1, 706, .ref 4)),
  (46, .imul, 1, (0, 0, 0, .null)),
  (47, .iadd, 1, (0, 0, 0, .null)),
  (48, .ireturn, 1, (0, 0, 0, .null))]
abbrev md_118 : am_M := (⟨"BindingServer", "scope", "(I)I"⟩, prog_1_method_11_code, 2, some .int, tb_118)
def tb_119 : List am_I := [(0, .aload_n 0, 1, (0, 0, 0, .null)),
  (1, .invokevirtual 96, 3, (126, 0, 325, .ref 0)),
  (4, .aload_n 0, 1, (0, 0, 0, .null)),
  (5, .invokevirtual 111, 3, (127, 0, 554, .ref 0)),
  (8, .ifCond .eq 13, 3, (21, 0, 0, .null)),
  (11, .aload_n 0, 1, (0, 0, 0, .null)),
  (12, .getfield 42, 3, (0, 4, 260, .null)),
  (15, .getfield 138, 3, (5, 8, 141, .null)),
  (18, .goto 4, 3, (22, 0, 0, .null)),
  (21, .iconst (-1), 1, (0, 0, 0, .int (-1))),
  (22, .ireturn, 1, (0, 0, 0, .null))]
abbrev md_119 : am_M := (⟨"BindingServer", "names", "()I"⟩, prog_1_method_12_code, 1, some .int, tb_119)
def tb_120 : List am_I := [(0, .aload_n 0, 1, (0, 0, 0, .null)),
  (1, .invokevirtual 96, 3, (126, 0, 325, .ref 0)),
  (4, .aload_n 0, 1, (0, 0, 0, .null)),
  (5, .invokevirtual 111, 3, (127, 0, 554, .ref 0)),
  (8, .ifCond .eq 18, 3, (26, 0, 0, .null)),
  (11, .iload_n 1, 1, (0, 0, 0, .null)),
  (12, .ifCond .lt 14, 3, (26, 0, 0, .null)),
  (15, .iload_n 1, 1, (0, 0, 0, .null)),
  (16, .aload_n 0, 1, (0, 0, 0, .null)),
  (17, .getfield 42, 3, (0, 4, 260, .null)),
  (20, .getfield 138, 3, (5, 8, 141, .null)),
  (23, .if_icmp .lt 5, 3, (28, 0, 0, .null)),
  (26, .iconst (-1), 1, (0, 0, 0, .int (-1))),
  (27, .ireturn, 1, (0, 0, 0, .null)),
  (28, .aload_n 0, 1, (0, 0, 0, .null)),
  (29, .getfield 42, 3, (0, 4, 260, .null)),
  (32, .getfield 139, 3, (5, 0, 123, .null)),
  (35, .iload_n 1, 1, (0, 0, 0, .null)),
  (36, .iaload, 1, (0, 0, 0, .null)),
  (37, .ireturn, 1, (0, 0, 0, .null))]
abbrev md_120 : am_M := (⟨"BindingServer", "name", "(I)I"⟩, prog_1_method_13_code, 2, some .int, tb_120)
def tb_121 : List am_I := [(0, .aload_n 0, 1, (0, 0, 0, .null)),
  (1, .invokevirtual 96, 3, (126, 0, 325, .ref 0)),
  (4, .aload_n 0, 1, (0, 0, 0, .null)),
  (5, .iload_n 1, 1, (0, 0, 0, .null)),
  (6, .invokevirtual 143, 3, (129, 1, 719, .ref 0)),
  (9, .istore_n 2, 1, (0, 0, 0, .null)),
  (10, .iload_n 2, 1, (0, 0, 0, .null)),
  (11, .ifCond .ge 7, 3, (18, 0, 0, .null)),
  (14, .iconst (-1), 1, (0, 0, 0, .int (-1))),
  (15, .goto 11, 3, (26, 0, 0, .null)),
  (18, .aload_n 0, 1, (0, 0, 0, .null)),
  (19, .getfield 42, 3, (0, 4, 260, .null)),
  (22, .iload_n 2, 1, (0, 0, 0, .null)),
  (23, .invokevirtual 146, 3, (38, 1, 731, .ref 5)),
  (26, .ireturn, 1, (0, 0, 0, .null))]
abbrev md_121 : am_M := (⟨"BindingServer", "resolve", "(I)I"⟩, prog_1_method_14_code, 3, some .int, tb_121)
def tb_122 : List am_I := [(0, .aload_n 0, 1, (0, 0, 0, .null)),
  (1, .invokevirtual 96, 3, (126, 0, 325, .ref 0)),
  (4, .aload_n 0, 1, (0, 0, 0, .null)),
  (5, .iload_n 1, 1, (0, 0, 0, .null)),
  (6, .invokevirtual 143, 3, (129, 1, 719, .ref 0)),
  (9, .istore_n 2, 1, (0, 0, 0, .null)),
  (10, .iload_n 2, 1, (0, 0, 0, .null)),
  (11, .ifCond .ge 5, 3, (16, 0, 0, .null)),
  (14, .iconst (-1), 1, (0, 0, 0, .int (-1))),
  (15, .ireturn, 1, (0, 0, 0, .null)),
  (16, .iconst 0, 1, (0, 0, 0, .int 0)),
  (17, .istore_n 3, 1, (0, 0, 0, .null)),
  (18, .iload_n 3, 1, (0, 0, 0, .null)),
  (19, .aload_n 0, 1, (0, 0, 0, .null)),
  (20, .getfield 42, 3, (0, 4, 260, .null)),
  (23, .getfield 138, 3, (5, 8, 141, .null)),
  (26, .if_icmp .ge 42, 3, (68, 0, 0, .null)),
  (29, .aload_n 0, 1, (0, 0, 0, .null)),
  (30, .getfield 42, 3, (0, 4, 260, .null)),
  (33, .iload_n 3, 1, (0, 0, 0, .null)),
  (34, .invokevirtual 149, 3, (33, 1, 739, .ref 5)),
  (37, .ifCond .eq 25, 3, (62, 0, 0, .null)),
  (40, .aload_n 0, 1, (0, 0, 0, .null)),
  (41, .getfield 42, 3, (0, 4, 260, .null)),
  (44, .iload_n 2, 1, (0, 0, 0, .null)),
  (45, .iload_n 3, 1, (0, 0, 0, .null)),
  (46, .invokevirtual 153, 3, (35, 2, 740, .ref 5)),
  (49, .ifCond .eq 13, 3, (62, 0, 0, .null)),
  (52, .aload_n 0, 1, (0, 0, 0, .null)),
  (53, .getfield 42, 3, (0, 4, 260, .null)),
  (56, .getfield 139, 3, (5, 0, 123, .null)),
  (59, .iload_n 3, 1, (0, 0, 0, .null)),
  (60, .iaload, 1, (0, 0, 0, .null)),
  (61, .ireturn, 1, (0, 0, 0, .null)),
  (62, .iinc 3 1, 3, (0, 0, 0, .null)),
  (65, .goto (-47), 3, (18, 0, 0, .null)),
  (68, .iconst (-1), 1, (0, 0, 0, .int (-1))),
  (69, .ireturn, 1, (0, 0, 0, .null))]
abbrev md_122 : am_M := (⟨"BindingServer", "definition", "(I)I"⟩, prog_1_method_15_code, 4, some .int, tb_122)
def tb_123 : List am_I := [(0, .aload_n 0, 1, (0, 0, 0, .null)),
  (1, .invokevirtual 96, 3, (126, 0, 325, .ref 0)),
  (4, .aload_n 0, 1, (0, 0, 0, .null)),
  (5, .iload_n 1, 1, (0, 0, 0, .null)),
  (6, .invokevirtual 143, 3, (129, 1, 719, .ref 0)),
  (9, .istore_n 3, 1, (0, 0, 0, .null)),
  (10, .iload_n 3, 1, (0, 0, 0, .null)),
  (11, .ifCond .lt 7, 3, (18, 0, 0, .null)),
  (14, .iload_n 2, 1, (0, 0, 0, .null)),
  (15, .ifCond .ge 5, 3, (20, 0, 0, .null)),
  (18, .iconst (-1), 1, (0, 0, 0, .int (-1))),
  (19, .ireturn, 1, (0, 0, 0, .null)),
  (20, .iconst 0, 1, (0, 0, 0, .int 0)),
  (21, .istore 4, 2, (0, 0, 0, .null)),
  (23, .iconst 0, 1, (0, 0, 0, .int 0)),
  (24, .istore 5, 2, (0, 0, 0, .null)),
  (26, .iload 5, 2, (0, 0, 0, .null)),
  (28, .aload_n 0, 1, (0, 0, 0, .null)),
  (29, .getfield 42, 3, (0, 4, 260, .null)),
  (32, .getfield 138, 3, (5, 8, 141, .null)),
  (35, .if_icmp .ge 42, 3, (77, 0, 0, .null)),
  (38, .aload_n 0, 1, (0, 0, 0, .null)),
  (39, .getfield 42, 3, (0, 4, 260, .null)),
  (42, .iload_n 3, 1, (0, 0, 0, .null)),
  (43, .iload 5, 2, (0, 0, 0, .null)),
  (45, .invokevirtual 153, 3, (35, 2, 740, .ref 5)),
  (48, .ifCond .eq 23, 3, (71, 0, 0, .null)),
  (51, .iload 4, 2, (0, 0, 0, .null)),
  (53, .iload_n 2, 1, (0, 0, 0, .null)),
  (54, .if_icmp .ne 14, 3, (68, 0, 0, .null)),
  (57, .aload_n 0, 1, (0, 0, 0, .null)),
  (58, .getfield 42, 3, (0, 4, 260, .null)),
  (61, .getfield 139, 3, (5, 0, 123, .null)),
  (64, .iload 5, 2, (0, 0, 0, .null)),
  (66, .iaload, 1, (0, 0, 0, .null)),
  (67, .ireturn, 1, (0, 0, 0, .null)),
  (68, .iinc 4 1, 3, (0, 0, 0, .null)),
  (71, .iinc 5 1, 3, (0, 0, 0, .null)),
  (74, .goto (-48), 3, (26, 0, 0, .null)),
  (77, .iconst (-1), 1, (0, 0, 0, .int (-1))),
  (78, .ireturn, 1, (0, 0, 0, .null))]
abbrev md_123 : am_M := (⟨"BindingServer", "reference", "(II)I"⟩, prog_1_method_16_code, 6, some .int, tb_123)
def tb_124 : List am_I := [(0, .aload_n 0, 1, (0, 0, 0, .null)),
  (1, .invokevirtual 96, 3, (126, 0, 325, .ref 0)),
  (4, .aload_n 0, 1, (0, 0, 0, .null)),
  (5, .iload_n 1, 1, (0, 0, 0, .null)),
  (6, .invokevirtual 143, 3, (129, 1, 719, .ref 0)),
  (9, .istore 4, 2, (0, 0, 0, .null)),
  (11, .iload 4, 2, (0, 0, 0, .null)),
  (13, .ifCond .lt 10, 3, (23, 0, 0, .null)),
  (16, .lload_n 2, 1, (0, 0, 0, .null)),
  (17, .invokestatic 157, 3, (22, 1, 749, .null)),
  (20, .ifCond .ne 5, 3, (25, 0, 0, .null)),
  (23, .iconst (-1), 1, (0, 0, 0, .int (-1))),
  (24, .ireturn, 1, (0, 0, 0, .null)),
  (25, .aload_n 0, 1, (0, 0, 0, .null)),
  (26, .getfield 42, 3, (0, 4, 260, .null)),
  (29, .getfield 160, 3, (5, 6, 134, .null)),
  (32, .iload 4, 2, (0, 0, 0, .null)),
  (34, .iaload, 1, (0, 0, 0, .null)),
  (35, .bipush 6, 2, (0, 0, 0, .int 6)),
  (37, .if_icmp .ne 6, 3, (43, 0, 0, .null)),
  (40, .bipush (-3), 2, (0, 0, 0, .int (-3))),
  (42, .ireturn, 1, (0, 0, 0, .null)),
  (43, .aload_n 0, 1, (0, 0, 0, .null)),
  (44, .getfield 42, 3, (0, 4, 260, .null)),
  (47, .iload 4, 2, (0, 0, 0, .null)),
  (49, .invokevirtual 163, 3, (37, 1, 755, .ref 5)),
  (52, .istore 5, 2, (0, 0, 0, .null)),
  (54, .lload_n 2, 1, (0, 0, 0, .null)),
  (55, .invokestatic 85, 3, (20, 1, 297, .null)),
  (58, .aload_n 0, 1, (0, 0, 0, .null)),
  (59, .getfield 42, 3, (0, 4, 260, .null)),
  (62, .iload 4, 2, (0, 0, 0, .null)),
  (64, .invokevirtual 166, 3, (31, 1, 760, .ref 5)),
  (67, .isub, 1, (0, 0, 0, .null)),
  (68, .istore 6, 2, (0, 0, 0, .null)),
  (70, .aload_n 0, 1, (0, 0, 0, .null)),
  (71, .getfield 10, 3, (0, 0, 256, .null)),
  (74, .getfield 75, 3, (1, 1, 30, .null)),
  (77, .iload 5, 2, (0, 0, 0, .null)),
  (79, .iload 6, 2, (0, 0, 0, .null)),
  (81, .imul, 1, (0, 0, 0, .null)),
  (82, .iadd, 1, (0, 0, 0, .null)),
  (83, .sipush 200, 3, (0, 0, 0, .int 200)),
  (86, .if_icmp .le 6, 3, (92, 0, 0, .null)),
  (89, .bipush (-2), 2, (0, 0, 0, .int (-2))),
  (91, .ireturn, 1, (0, 0, 0, .null)),
  (92, .aload_n 0, 1, (0, 0, 0, .null)),
  (93, .getfield 67, 3, (0, 7, 263, .null)),
  (96, .aload_n 0, 1, (0, 0, 0, .null)),
  (97, .getfield 10, 3, (0, 0, 256, .null)),
  (100, .aload_n 0, 1, (0, 0, 0, .null)),
  (101, .getfield 42, 3, (0, 4, 260, .null)),
  (104, .invokevirtual 169, 3, (77, 2, 761, .ref 8)),
  (107, .aload_n 0, 1, (0, 0, 0, .null)),
  (108, .iload 4, 2, (0, 0, 0, .null)),
  (110, .lload_n 2, 1, (0, 0, 0, .null)),
  (111, .invokevirtual 173, 3, (125, 2, 771, .ref 0)),
  (114, .aload_n 0, 1, (0, 0, 0, .null)),
  (115, .iconst 1, 1, (0, 0, 0, .int 1)),
  (116, .putfield 71, 3, (0, 8, 264, .null)),
  (119, .aload_n 0, 1, (0, 0, 0, .null)),
  (120, .invokevirtual 96, 3, (126, 0, 325, .ref 0)),
  (123, .aload_n 0, 1, (0, 0, 0, .null)),
  (124, .invokevirtual 177, 3, (128, 0, 723, .ref 0)),
  (127, .ifCond .eq 17, 3, (144, 0, 0, .null)),
  (130, .aload_n 0, 1, (0, 0, 0, .null)),
  (131, .getfield 67, 3, (0, 7, 263, .null)),
  (134, .aload_n 0, 1, (0, 0, 0, .null)),
  (135, .getfield 42, 3, (0, 4, 260, .null)),
  (138, .invokevirtual 180, 3, (79, 1, 775, .ref 8)),
  (141, .ifCond .ne 22, 3, (163, 0, 0, .null)),
  (144, .aload_n 0, 1, (0, 0, 0, .null)),
  (145, .getfield 67, 3, (0, 7, 263, .null)),
  (148, .aload_n 0, 1, (0, 0, 0, .null)),
  (149, .getfield 10, 3, (0, 0, 256, .null)),
  (152, .invokevirtual 184, 3, (78, 1, 779, .ref 8)),
  (155, .aload_n 0, 1, (0, 0, 0, .null)),
  (156, .iconst 1, 1, (0, 0, 0, .int 1)),
  (157, .putfield 71, 3, (0, 8, 264, .null)),
  (160, .bipush (-4), 2, (0, 0, 0, .int (-4))),
  (162, .ireturn, 1, (0, 0, 0, .null)),
  (163, .iload 5, 2, (0, 0, 0, .null)),
  (165, .ireturn, 1, (0, 0, 0, .null))]
abbrev md_124 : am_M := (⟨"BindingServer", "rename", "(IJ)I"⟩, prog_1_method_17_code, 7, some .int, tb_124)
def tb_125 : List am_I := [(0, .aload_n 0, 1, (0, 0, 0, .null)),
  (1, .getfield 42, 3, (0, 4, 260, .null)),
  (4, .getfield 138, 3, (5, 8, 141, .null)),
  (7, .iconst 1, 1, (0, 0, 0, .int 1)),
  (8, .isub, 1, (0, 0, 0, .null)),
  (9, .istore 4, 2, (0, 0, 0, .null)),
  (11, .iload 4, 2, (0, 0, 0, .null)),
  (13, .ifCond .lt 49, 3, (62, 0, 0, .null)),
  (16, .aload_n 0, 1, (0, 0, 0, .null)),
  (17, .getfield 42, 3, (0, 4, 260, .null)),
  (20, .iload_n 1, 1, (0, 0, 0, .null)),
  (21, .iload 4, 2, (0, 0, 0, .null)),
  (23, .invokevirtual 153, 3, (35, 2, 740, .ref 5)),
  (26, .ifCond .eq 30, 3, (56, 0, 0, .null)),
  (29, .aload_n 0, 1, (0, 0, 0, .null)),
  (30, .getfield 10, 3, (0, 0, 256, .null)),
  (33, .aload_n 0, 1, (0, 0, 0, .null)),
  (34, .getfield 42, 3, (0, 4, 260, .null)),
  (37, .getfield 139, 3, (5, 0, 123, .null)),
  (40, .iload 4, 2, (0, 0, 0, .null)),
  (42, .iaload, 1, (0, 0, 0, .null)),
  (43, .aload_n 0, 1, (0, 0, 0, .null)),
  (44, .getfield 42, 3, (0, 4, 260, .null)),
  (47, .iload 4, 2, (0, 0, 0, .null)),
  (49, .invokevirtual 166, 3, (31, 1, 760, .ref 5)),
  (52, .lload_n 2, 1, (0, 0, 0, .null)),
  (53, .invokevirtual 88, 3, (86, 3, 300, .ref 1)),
  (56, .iinc 4 (-1), 3, (0, 0, 0, .null)),
  (59, .goto (-48), 3, (11, 0, 0, .null)),
  (62, .return_, 1, (0, 0, 0, .null))]
abbrev md_125 : am_M := (⟨"BindingServer", "respell", "(IJ)V"⟩, prog_1_method_18_code, 5, none, tb_125)
def tb_126 : List am_I := [(0, .aload_n 0, 1, (0, 0, 0, .null)),
  (1, .getfield 71, 3, (0, 8, 264, .null)),
  (4, .ifCond .ne 4, 3, (8, 0, 0, .null)),
  (7, .return_, 1, (0, 0, 0, .null)),
  (8, .aload_n 0, 1, (0, 0, 0, .null)),
  (9, .iconst 0, 1, (0, 0, 0, .int 0)),
  (10, .putfield 71, 3, (0, 8, 264, .null)),
  (13, .aload_n 0, 1, (0, 0, 0, .null)),
  (14, .getfield 21, 3, (0, 1, 257, .null)),
  (17, .invokevirtual 187, 3, (98, 0, 329, .ref 2)),
  (20, .aload_n 0, 1, (0, 0, 0, .null)),
  (21, .getfield 51, 3, (0, 5, 261, .null)),
  (24, .invokevirtual 190, 3, (40, 0, 405, .ref 6)),
  (27, .aload_n 0, 1, (0, 0, 0, .null)),
  (28, .invokevirtual 111, 3, (127, 0, 554, .ref 0)),
  (31, .ifCond .eq 17, 3, (48, 0, 0, .null)),
  (34, .aload_n 0, 1, (0, 0, 0, .null)),
  (35, .getfield 60, 3, (0, 6, 262, .null)),
  (38, .aload_n 0, 1, (0, 0, 0, .null)),
  (39, .getfield 51, 3, (0, 5, 261, .null)),
  (42, .getfield 191, 3, (6, 12, 182, .null)),
  (45, .invokevirtual 194, 3, (2, 1, 558, .ref 7)),
  (48, .return_, 1, (0, 0, 0, .null))]
abbrev md_126 : am_M := (⟨"BindingServer", "refresh", "()V"⟩, prog_1_method_19_code, 1, none, tb_126)
def tb_127 : List am_I := [(0, .aload_n 0, 1, (0, 0, 0, .null)),
  (1, .getfield 51, 3, (0, 5, 261, .null)),
  (4, .getfield 118, 3, (6, 10, 178, .null)),
  (7, .ifCond .ne 7, 3, (14, 0, 0, .null)),
  (10, .iconst 1, 1, (0, 0, 0, .int 1)),
  (11, .goto 4, 3, (15, 0, 0, .null)),
  (14, .iconst 0, 1, (0, 0, 0, .int 0)),
  (15, .ireturn, 1, (0, 0, 0, .null))]
abbrev md_127 : am_M := (⟨"BindingServer", "isAccepted", "()Z"⟩, prog_1_method_20_code, 1, some .boolean, tb_127)
def tb_128 : List am_I := [(0, .aload_n 0, 1, (0, 0, 0, .null)),
  (1, .invokevirtual 111, 3, (127, 0, 554, .ref 0)),
  (4, .ifCond .eq 17, 3, (21, 0, 0, .null)),
  (7, .aload_n 0, 1, (0, 0, 0, .null)),
  (8, .getfield 60, 3, (0, 6, 262, .null)),
  (11, .getfield 115, 3, (7, 3, 220, .null)),
  (14, .ifCond .ne 7, 3, (21, 0, 0, .null)),
  (17, .iconst 1, 1, (0, 0, 0, .int 1)),
  (18, .goto 4, 3, (22, 0, 0, .null)),
  (21, .iconst 0, 1, (0, 0, 0, .int 0)),
  (22, .ireturn, 1, (0, 0, 0, .null))]
abbrev md_128 : am_M := (⟨"BindingServer", "isFine", "()Z"⟩, prog_1_method_21_code, 1, some .boolean, tb_128)
def tb_129 : List am_I := [(0, .aload_n 0, 1, (0, 0, 0, .null)),
  (1, .invokevirtual 177, 3, (128, 0, 723, .ref 0)),
  (4, .ifCond .eq 14, 3, (18, 0, 0, .null)),
  (7, .aload_n 0, 1, (0, 0, 0, .null)),
  (8, .getfield 42, 3, (0, 4, 260, .null)),
  (11, .iload_n 1, 1, (0, 0, 0, .null)),
  (12, .invokevirtual 198, 3, (30, 1, 727, .ref 5)),
  (15, .goto 4, 3, (19, 0, 0, .null)),
  (18, .iconst (-1), 1, (0, 0, 0, .int (-1))),
  (19, .ireturn, 1, (0, 0, 0, .null))]
abbrev md_129 : am_M := (⟨"BindingServer", "settledAt", "(I)I"⟩, prog_1_method_22_code, 2, some .int, tb_129)
def tb_130 : List am_I := [(0, .aload_n 0, 1, (0, 0, 0, .null)),
  (1, .invokespecial 1, 3, (1002, 0, 788, .null)),
  (4, .aload_n 0, 1, (0, 0, 0, .null)),
  (5, .sipush 200, 3, (0, 0, 0, .int 200)),
  (8, .newarray .int, 2, (0, 0, 0, .null)),
  (10, .putfield 7, 3, (9, 1, 790, .null)),
  (13, .aload_n 0, 1, (0, 0, 0, .null)),
  (14, .sipush 200, 3, (0, 0, 0, .int 200)),
  (17, .newarray .int, 2, (0, 0, 0, .null)),
  (19, .putfield 13, 3, (9, 2, 791, .null)),
  (22, .aload_n 0, 1, (0, 0, 0, .null)),
  (23, .sipush 200, 3, (0, 0, 0, .int 200)),
  (26, .newarray .int, 2, (0, 0, 0, .null)),
  (28, .putfield 16, 3, (9, 3, 792, .null)),
  (31, .aload_n 0, 1, (0, 0, 0, .null)),
  (32, .iconst 1, 1, (0, 0, 0, .int 1)),
  (33, .putfield 19, 3, (9, 4, 793, .null)),
  (36, .aload_n 0, 1, (0, 0, 0, .null)),
  (37, .sipush 420, 3, (0, 0, 0, .int 420)),
  (40, .newarray .int, 2, (0, 0, 0, .null)),
  (42, .putfield 23, 3, (9, 6, 795, .null)),
  (45, .aload_n 0, 1, (0, 0, 0, .null)),
  (46, .sipush 420, 3, (0, 0, 0, .int 420)),
  (49, .newarray .int, 2, (0, 0, 0, .null)),
  (51, .putfield 26, 3, (9, 7, 796, .null)),
  (54, .aload_n 0, 1, (0, 0, 0, .null)),
  (55, .sipush 420, 3, (0, 0, 0, .int 420)),
  (58, .newarray .int, 2, (0, 0, 0, .null)),
  (60, .putfield 29, 3, (9, 8, 797, .null)),
  (63, .aload_n 0, 1, (0, 0, 0, .null)),
  (64, .sipush 420, 3, (0, 0, 0, .int 420)),
  (67, .newarray .int, 2, (0, 0, 0, .null)),
  (69, .putfield 32, 3, (9, 9, 798, .null)),
  (72, .aload_n 0, 1, (0, 0, 0, .null)),
  (73, .sipush 420, 3, (0, 0, 0, .int 420)),
  (76, .newarray .int, 2, (0, 0, 0, .null)),
  (78, .putfield 35, 3, (9, 10, 799, .null)),
  (81, .aload_n 0, 1, (0, 0, 0, .null)),
  (82, .sipush 210, 3, (0, 0, 0, .int 210)),
  (85, .newarray .int, 2, (0, 0, 0, .null)),
  (87, .putfield 38, 3, (9, 11, 800, .null)),
  (90, .aload_n 0, 1, (0, 0, 0, .null)),
  (91, .sipush 240, 3, (0, 0, 0, .int 240)),
  (94, .newarray .int, 2, (0, 0, 0, .null)),
  (96, .putfield 41, 3, (9, 15, 804, .null)),
  (99, .aload_n 0, 1, (0, 0, 0, .null)),
  (100, .sipush 240, 3, (0, 0, 0, .int 240)),
  (103, .newarray .int, 2, (0, 0, 0, .null)),
  (105, .putfield 44, 3, (9, 16, 805, .null)),
  (108, .aload_n 0, 1, (0, 0, 0, .null)),
  (109, .sipush 1000, 3, (0, 0, 0, .int 1000)),
  (112, .newarray .int, 2, (0, 0, 0, .null)),
  (114, .putfield 47, 3, (9, 21, 810, .null)),
  (117, .aload_n 0, 1, (0, 0, 0, .null)),
  (118, .sipush 1000, 3, (0, 0, 0, .int 1000)),
  (121, .newarray .int, 2, (0, 0, 0, .null)),
  (123, .putfield 50, 3, (9, 22, 811, .null)),
  (126, .aload_n 0, 1, (0, 0, 0, .null)),
  (127, .bipush 40, 2, (0, 0, 0, .int 40)),
  (129, .newarray .int, 2, (0, 0, 0, .null)),
  (131, .putfield 53, 3, (9, 24, 813, .null)),
  (134, .aload_n 0, 1, (0, 0, 0, .null)),
  (135, .bipush 40, 2, (0, 0, 0, .int 40)),
  (137, .newarray .int, 2, (0, 0, 0, .null)),
  (139, .putfield 56, 3, (9, 25, 814, .null)),
  (142, .aload_n 0, 1, (0, 0, 0, .null)),
  (143, .bipush 40, 2, (0, 0, 0, .int 40)),
  (145, .newarray .int, 2, (0, 0, 0, .null)),
  (147, .putfield 59, 3, (9, 26, 815, .null)),
  (150, .aload_n 0, 1, (0, 0, 0, .null)),
  (151, .bipush 40, 2, (0, 0, 0, .int 40)),
  (153, .newarray .int, 2, (0, 0, 0, .null)),
  (155, .putfield 62, 3, (9, 27, 816, .null)),
  (158, .aload_n 0, 1, (0, 0, 0, .null)),
  (159, .bipush 40, 2, (0, 0, 0, .int 40)),
  (161, .newarray .int, 2, (0, 0, 0, .null)),
  (163, .putfield 65, 3, (9, 28, 817, .null)),
  (166, .aload_n 0, 1, (0, 0, 0, .null)),
  (167, .bipush 40, 2, (0, 0, 0, .int 40)),
  (169, .newarray .int, 2, (0, 0, 0, .null)),
  (171, .putfield 68, 3, (9, 29, 818, .null)),
  (174, .aload_n 0, 1, (0, 0, 0, .null)),
  (175, .bipush 40, 2, (0, 0, 0, .int 40)),
  (177, .newarray .int, 2, (0, 0, 0, .null)),
  (179, .putfield 71, 3, (9, 30, 819, .null)),
  (182, .aload_n 0, 1, (0, 0, 0, .null)),
  (183, .sipush 200, 3, (0, 0, 0, .int 200)),
  (186, .newarray .int, 2, (0, 0, 0, .null)),
  (188, .putfield 74, 3, (9, 32, 821, .null)),
  (191, .aload_n 0, 1, (0, 0, 0, .null)),
  (192, .sipush 200, 3, (0, 0, 0, .int 200)),
  (195, .newarray .int, 2, (0, 0, 0, .null)),
  (197, .putfield 77, 3, (9, 35, 824, .null)),
  (200, .aload_n 0, 1, (0, 0, 0, .null)),
  (201, .sipush 200, 3, (0, 0, 0, .int 200)),
  (204, .newarray .int, 2, (0, 0, 0, .null)),
  (206, .putfield 80, 3, (9, 36, 825, .null)),
  (209, .return_, 1, (0, 0, 0, .null))]
abbrev md_130 : am_M := (⟨"BindingServerModel", "<init>", "()V"⟩, prog_12_method_1_code, 1, none, tb_130)
def tb_131 : List am_I := [(0, .iload_n 0, 1, (0, 0, 0, .null)),
  (1, .bipush 10, 2, (0, 0, 0, .int 10)),
  (3, .if_icmp .eq 15, 3, (18, 0, 0, .null)),
  (6, .iload_n 0, 1, (0, 0, 0, .null)),
  (7, .bipush 32, 2, (0, 0, 0, .int 32)),
  (9, .if_icmp .lt 13, 3, (22, 0, 0, .null)),
  (12, .iload_n 0, 1, (0, 0, 0, .null)),
  (13, .bipush 126, 2, (0, 0, 0, .int 126)),
  (15, .if_icmp .gt 7, 3, (22, 0, 0, .null)),
  (18, .iconst 1, 1, (0, 0, 0, .int 1)),
  (19, .goto 4, 3, (23, 0, 0, .null)),
  (22, .iconst 0, 1, (0, 0, 0, .int 0)),
  (23, .ireturn, 1, (0, 0, 0, .null))]
abbrev md_131 : am_M := (⟨"BindingServerModel", "isCharacter", "(I)Z"⟩, prog_12_method_2_code, 1, some .boolean, tb_131)
def tb_132 : List am_I := [(0, .iconst 0, 1, (0, 0, 0, .int 0)),
  (1, .istore 5, 2, (0, 0, 0, .null)),
  (3, .iload_n 1, 1, (0, 0, 0, .null)),
  (4, .ifCond .lt 29, 3, (33, 0, 0, .null)),
  (7, .iload_n 1, 1, (0, 0, 0, .null)),
  (8, .aload_n 0, 1, (0, 0, 0, .null)),
  (9, .getfield 83, 3, (9, 0, 789, .null)),
  (12, .if_icmp .gt 21, 3, (33, 0, 0, .null)),
  (15, .iload_n 2, 1, (0, 0, 0, .null)),
  (16, .ifCond .lt 17, 3, (33, 0, 0, .null)),
  (19, .iload_n 2, 1, (0, 0, 0, .null)),
  (20, .aload_n 0, 1, (0, 0, 0, .null)),
  (21, .getfield 83, 3, (9, 0, 789, .null)),
  (24, .iload_n 1, 1, (0, 0, 0, .null)),
  (25, .isub, 1, (0, 0, 0, .null)),
  (26, .if_icmp .gt 7, 3, (33, 0, 0, .null)),
  (29, .iconst 1, 1, (0, 0, 0, .int 1)),
  (30, .goto 4, 3, (34, 0, 0, .null)),
  (33, .iconst 0, 1, (0, 0, 0, .int 0)),
  (34, .istore 6, 2, (0, 0, 0, .null)),
  (36, .bipush 56, 2, (0, 0, 0, .int 56)),
  (38, .istore 7, 2, (0, 0, 0, .null)),
  (40, .iload 7, 2, (0, 0, 0, .null)),
  (42, .ifCond .lt 61, 3, (103, 0, 0, .null)),
  (45, .lload_n 3, 1, (0, 0, 0, .null)),
  (46, .iload 7, 2, (0, 0, 0, .null)),
  (48, .lushr, 1, (0, 0, 0, .null)),
  (49, .l2i, 1, (0, 0, 0, .null)),
  (50, .sipush 255, 3, (0, 0, 0, .int 255)),
  (53, .iand, 1, (0, 0, 0, .null)),
  (54, .istore 8, 2, (0, 0, 0, .null)),
  (56, .iload 6, 2, (0, 0, 0, .null)),
  (58, .ifCond .eq 20, 3, (78, 0, 0, .null)),
  (61, .iload 8, 2, (0, 0, 0, .null)),
  (63, .ifCond .eq 11, 3, (74, 0, 0, .null)),
  (66, .iload 8, 2, (0, 0, 0, .null)),
  (68, .invokestatic 87, 3, (131, 1, 905, .null)),
  (71, .ifCond .eq 7, 3, (78, 0, 0, .null)),
  (74, .iconst 1, 1, (0, 0, 0, .int 1)),
  (75, .goto 4, 3, (79, 0, 0, .null)),
  (78, .iconst 0, 1, (0, 0, 0, .int 0)),
  (79, .istore 6, 2, (0, 0, 0, .null)),
  (81, .iload 8, 2, (0, 0, 0, .null)),
  (83, .ifCond .eq 10, 3, (93, 0, 0, .null)),
  (86, .iload 5, 2, (0, 0, 0, .null)),
  (88, .iconst 1, 1, (0, 0, 0, .int 1)),
  (89, .iadd, 1, (0, 0, 0, .null)),
  (90, .goto 5, 3, (95, 0, 0, .null)),
  (93, .iload 5, 2, (0, 0, 0, .null)),
  (95, .istore 5, 2, (0, 0, 0, .null)),
  (97, .iinc 7 (-8), 3, (0, 0, 0, .null)),
  (100, .goto (-60), 3, (40, 0, 0, .null)),
  (103, .iload 6, 2, (0, 0, 0, .null)),
  (105, .ifCond .eq 18, 3, (123, 0, 0, .null)),
  (108, .aload_n 0, 1, (0, 0, 0, .null)),
  (109, .getfield 83, 3, (9, 0, 789, .null)),
  (112, .iload_n 2, 1, (0, 0, 0, .null)),
  (113, .isub, 1, (0, 0, 0, .null)),
  (114, .iload 5, 2, (0, 0, 0, .null)),
  (116, .iadd, 1, (0, 0, 0, .null)),
  (117, .sipush 200, 3, (0, 0, 0, .int 200)),
  (120, .if_icmp .le 15, 3, (135, 0, 0, .null)),
  (123, .iload 6, 2, (0, 0, 0, .null)),
  (125, .ifCond .eq 8, 3, (133, 0, 0, .null)),
  (128, .bipush (-2), 2, (0, 0, 0, .int (-2))),
  (130, .goto 4, 3, (134, 0, 0, .null)),
  (133, .iconst (-1), 1, (0, 0, 0, .int (-1))),
  (134, .ireturn, 1, (0, 0, 0, .null)),
  (135, .aload_n 0, 1, (0, 0, 0, .null)),
  (136, .iload_n 1, 1, (0, 0, 0, .null)),
  (137, .iload_n 2, 1, (0, 0, 0, .null)),
  (138, .iload 5, 2, (0, 0, 0, .null)),
  (140, .lload_n 3, 1, (0, 0, 0, .null)),
  (141, .invokevirtual 91, 3, (133, 4, 908, .ref 9)),
  (144, .aload_n 0, 1, (0, 0, 0, .null)),
  (145, .getfield 83, 3, (9, 0, 789, .null)),
  (148, .ireturn, 1, (0, 0, 0, .null))]
abbrev md_132 : am_M := (⟨"BindingServerModel", "edit", "(IIJ)I"⟩, prog_12_method_3_code, 9, some .int, tb_132)
def tb_133 : List am_I := [(0, .iload_n 1, 1, (0, 0, 0, .null)),
  (1, .iload_n 2, 1, (0, 0, 0, .null)),
  (2, .iadd, 1, (0, 0, 0, .null)),
  (3, .istore 6, 2, (0, 0, 0, .null)),
  (5, .iload 6, 2, (0, 0, 0, .null)),
  (7, .aload_n 0, 1, (0, 0, 0, .null)),
  (8, .getfield 83, 3, (9, 0, 789, .null)),
  (11, .if_icmp .ge 23, 3, (34, 0, 0, .null)),
  (14, .aload_n 0, 1, (0, 0, 0, .null)),
  (15, .getfield 13, 3, (9, 2, 791, .null)),
  (18, .iload 6, 2, (0, 0, 0, .null)),
  (20, .aload_n 0, 1, (0, 0, 0, .null)),
  (21, .getfield 7, 3, (9, 1, 790, .null)),
  (24, .iload 6, 2, (0, 0, 0, .null)),
  (26, .iaload, 1, (0, 0, 0, .null)),
  (27, .iastore, 1, (0, 0, 0, .null)),
  (28, .iinc 6 1, 3, (0, 0, 0, .null)),
  (31, .goto (-26), 3, (5, 0, 0, .null)),
  (34, .iload_n 1, 1, (0, 0, 0, .null)),
  (35, .iload_n 2, 1, (0, 0, 0, .null)),
  (36, .iadd, 1, (0, 0, 0, .null)),
  (37, .istore 6, 2, (0, 0, 0, .null)),
  (39, .iload 6, 2, (0, 0, 0, .null)),
  (41, .aload_n 0, 1, (0, 0, 0, .null)),
  (42, .getfield 83, 3, (9, 0, 789, .null)),
  (45, .if_icmp .ge 27, 3, (72, 0, 0, .null)),
  (48, .aload_n 0, 1, (0, 0, 0, .null)),
  (49, .getfield 7, 3, (9, 1, 790, .null)),
  (52, .iload 6, 2, (0, 0, 0, .null)),
  (54, .iload_n 2, 1, (0, 0, 0, .null)),
  (55, .isub, 1, (0, 0, 0, .null)),
  (56, .iload_n 3, 1, (0, 0, 0, .null)),
  (57, .iadd, 1, (0, 0, 0, .null)),
  (58, .aload_n 0, 1, (0, 0, 0, .null)),
  (59, .getfield 13, 3, (9, 2, 791, .null)),
  (62, .iload 6, 2, (0, 0, 0, .null)),
  (64, .iaload, 1, (0, 0, 0, .null)),
  (65, .iastore, 1, (0, 0, 0, .null)),
  (66, .iinc 6 1, 3, (0, 0, 0, .null)),
  (69, .goto (-30), 3, (39, 0, 0, .null)),
  (72, .aload_n 0, 1, (0, 0, 0, .null)),
  (73, .aload_n 0, 1, (0, 0, 0, .null)),
  (74, .getfield 83, 3, (9, 0, 789, .null)),
  (77, .iload_n 2, 1, (0, 0, 0, .null)),
  (78, .isub, 1, (0, 0, 0, .null)),
  (79, .iload_n 3, 1, (0, 0, 0, .null)),
  (80, .iadd, 1, (0, 0, 0, .null)),
  (81, .putfield 83, 3, (9, 0, 789, .null)),
  (84, .iload_n 1, 1, (0, 0, 0, .null)),
  (85, .istore 6, 2, (0, 0, 0, .null)),
  (87, .bipush 56, 2, (0, 0, 0, .int 56)),
  (89, .istore 7, 2, (0, 0, 0, .null)),
  (91, .iload 7, 2, (0, 0, 0, .null)),
  (93, .ifCond .lt 38, 3, (131, 0, 0, .null)),
  (96, .lload 4, 2, (0, 0, 0, .null)),
  (98, .iload 7, 2, (0, 0, 0, .null)),
  (100, .lushr, 1, (0, 0, 0, .null)),
  (101, .l2i, 1, (0, 0, 0, .null)),
  (102, .sipush 255, 3, (0, 0, 0, .int 255)),
  (105, .iand, 1, (0, 0, 0, .null)),
  (106, .istore 8, 2, (0, 0, 0, .null)),
  (108, .iload 8, 2, (0, 0, 0, .null)),
  (110, .ifCond .eq 15, 3, (125, 0, 0, .null)),
  (113, .aload_n 0, 1, (0, 0, 0, .null)),
  (114, .getfield 7, 3, (9, 1, 790, .null)),
  (117, .iload 6, 2, (0, 0, 0, .null)),
  (119, .iload 8, 2, (0, 0, 0, .null)),
  (121, .iastore, 1, (0, 0, 0, .null)),
  (122, .iinc 6 1, 3, (0, 0, 0, .null)),
  (125, .iinc 7 (-8), 3, (0, 0, 0, .null)),
  (128, .goto (-37), 3, (91, 0, 0, .null)),
  (131, .aload_n 0, 1, (0, 0, 0, .null)),
  (132, .iconst 1, 1, (0, 0, 0, .int 1)),
  (133, .putfield 19, 3, (9, 4, 793, .null)),
  (136, .return_, 1, (0, 0, 0, .null))]
abbrev md_133 : am_M := (⟨"BindingServerModel", "replace", "(IIIJ)V"⟩, prog_12_method_4_code, 9, none, tb_133)
def tb_134 : List am_I := [(0, .aload_n 0, 1, (0, 0, 0, .null)),
  (1, .getfield 83, 3, (9, 0, 789, .null)),
  (4, .ireturn, 1, (0, 0, 0, .null))]
abbrev md_134 : am_M := (⟨"BindingServerModel", "length", "()I"⟩, prog_12_method_5_code, 1, some .int, tb_134)
def tb_135 : List am_I := [(0, .iload_n 1, 1, (0, 0, 0, .null)),
  (1, .ifCond .lt 20, 3, (21, 0, 0, .null)),
  (4, .iload_n 1, 1, (0, 0, 0, .null)),
  (5, .aload_n 0, 1, (0, 0, 0, .null)),
  (6, .getfield 83, 3, (9, 0, 789, .null)),
  (9, .if_icmp .ge 12, 3, (21, 0, 0, .null)),
  (12, .aload_n 0, 1, (0, 0, 0, .null)),
  (13, .getfield 7, 3, (9, 1, 790, .null)),
  (16, .iload_n 1, 1, (0, 0, 0, .null)),
  (17, .iaload, 1, (0, 0, 0, .null)),
  (18, .goto 4, 3, (22, 0, 0, .null)),
  (21, .iconst (-1), 1, (0, 0, 0, .int (-1))),
  (22, .ireturn, 1, (0, 0, 0, .null))]
abbrev md_135 : am_M := (⟨"BindingServerModel", "character", "(I)I"⟩, prog_12_method_6_code, 2, some .int, tb_135)
def tb_136 : List am_I := [(0, .aload_n 0, 1, (0, 0, 0, .null)),
  (1, .getfield 19, 3, (9, 4, 793, .null)),
  (4, .ifCond .eq 35, 3, (39, 0, 0, .null)),
  (7, .aload_n 0, 1, (0, 0, 0, .null)),
  (8, .iconst 0, 1, (0, 0, 0, .int 0)),
  (9, .putfield 19, 3, (9, 4, 793, .null)),
  (12, .aload_n 0, 1, (0, 0, 0, .null)),
  (13, .invokevirtual 95, 3, (141, 0, 928, .ref 9)),
  (16, .aload_n 0, 1, (0, 0, 0, .null)),
  (17, .invokevirtual 98, 3, (153, 0, 972, .ref 9)),
  (20, .aload_n 0, 1, (0, 0, 0, .null)),
  (21, .getfield 101, 3, (9, 18, 807, .null)),
  (24, .ifCond .ne 15, 3, (39, 0, 0, .null)),
  (27, .aload_n 0, 1, (0, 0, 0, .null)),
  (28, .invokevirtual 104, 3, (163, 0, 1044, .ref 9)),
  (31, .aload_n 0, 1, (0, 0, 0, .null)),
  (32, .invokevirtual 107, 3, (169, 0, 1052, .ref 9)),
  (35, .aload_n 0, 1, (0, 0, 0, .null)),
  (36, .invokevirtual 110, 3, (176, 0, 1056, .ref 9)),
  (39, .return_, 1, (0, 0, 0, .null))]
abbrev md_136 : am_M := (⟨"BindingServerModel", "look", "()V"⟩, prog_12_method_7_code, 1, none, tb_136)
def tb_137 : List am_I := [(0, .iload_n 0, 1, (0, 0, 0, .null)),
  (1, .bipush 48, 2, (0, 0, 0, .int 48)),
  (3, .if_icmp .lt 13, 3, (16, 0, 0, .null)),
  (6, .iload_n 0, 1, (0, 0, 0, .null)),
  (7, .bipush 57, 2, (0, 0, 0, .int 57)),
  (9, .if_icmp .gt 7, 3, (16, 0, 0, .null)),
  (12, .iconst 1, 1, (0, 0, 0, .int 1)),
  (13, .goto 4, 3, (17, 0, 0, .null)),
  (16, .iconst 0, 1, (0, 0, 0, .int 0)),
  (17, .ireturn, 1, (0, 0, 0, .null))]
abbrev md_137 : am_M := (⟨"BindingServerModel", "isDigit", "(I)Z"⟩, prog_12_method_8_code, 1, some .boolean, tb_137)
def tb_138 : List am_I := [(0, .iload_n 0, 1, (0, 0, 0, .null)),
  (1, .bipush 97, 2, (0, 0, 0, .int 97)),
  (3, .if_icmp .lt 9, 3, (12, 0, 0, .null)),
  (6, .iload_n 0, 1, (0, 0, 0, .null)),
  (7, .bipush 122, 2, (0, 0, 0, .int 122)),
  (9, .if_icmp .le 21, 3, (30, 0, 0, .null)),
  (12, .iload_n 0, 1, (0, 0, 0, .null)),
  (13, .bipush 65, 2, (0, 0, 0, .int 65)),
  (15, .if_icmp .lt 9, 3, (24, 0, 0, .null)),
  (18, .iload_n 0, 1, (0, 0, 0, .null)),
  (19, .bipush 90, 2, (0, 0, 0, .int 90)),
  (21, .if_icmp .le 9, 3, (30, 0, 0, .null)),
  (24, .iload_n 0, 1, (0, 0, 0, .null)),
  (25, .bipush 95, 2, (0, 0, 0, .int 95)),
  (27, .if_icmp .ne 7, 3, (34, 0, 0, .null)),
  (30, .iconst 1, 1, (0, 0, 0, .int 1)),
  (31, .goto 4, 3, (35, 0, 0, .null)),
  (34, .iconst 0, 1, (0, 0, 0, .int 0)),
  (35, .ireturn, 1, (0, 0, 0, .null))]
abbrev md_138 : am_M := (⟨"BindingServerModel", "isLetter", "(I)Z"⟩, prog_12_method_9_code, 1, some .boolean, tb_138)
def tb_139 : List am_I := [(0, .lload_n 0, 1, (0, 0, 0, .null)),
  (1, .ldc2_w 113, 3, (0, 0, 958, .long 427020088179)),
  (4, .lcmp, 1, (0, 0, 0, .null)),
  (5, .ifCond .ne 7, 3, (12, 0, 0, .null)),
  (8, .iconst 1, 1, (0, 0, 0, .int 1)),
  (9, .goto 169, 3, (178, 0, 0, .null)),
  (12, .lload_n 0, 1, (0, 0, 0, .null)),
  (13, .ldc2_w 115, 3, (0, 0, 959, .long 6579558)),
  (16, .lcmp, 1, (0, 0, 0, .null)),
  (17, .ifCond .ne 7, 3, (24, 0, 0, .null)),
  (20, .iconst 2, 1, (0, 0, 0, .int 2)),
  (21, .goto 157, 3, (178, 0, 0, .null)),
  (24, .lload_n 0, 1, (0, 0, 0, .null)),
  (25, .ldc2_w 117, 3, (0, 0, 960, .long 6579564)),
  (28, .lcmp, 1, (0, 0, 0, .null)),
  (29, .ifCond .ne 7, 3, (36, 0, 0, .null)),
  (32, .iconst 3, 1, (0, 0, 0, .int 3)),
  (33, .goto 145, 3, (178, 0, 0, .null)),
  (36, .lload_n 0, 1, (0, 0, 0, .null)),
  (37, .ldc2_w 119, 3, (0, 0, 961, .long 1701606245)),
  (40, .lcmp, 1, (0, 0, 0, .null)),
  (41, .ifCond .ne 7, 3, (48, 0, 0, .null)),
  (44, .iconst 4, 1, (0, 0, 0, .int 4)),
  (45, .goto 133, 3, (178, 0, 0, .null)),
  (48, .lload_n 0, 1, (0, 0, 0, .null)),
  (49, .ldc2_w 121, 3, (0, 0, 962, .long 6713202)),
  (52, .lcmp, 1, (0, 0, 0, .null)),
  (53, .ifCond .ne 7, 3, (60, 0, 0, .null)),
  (56, .iconst 5, 1, (0, 0, 0, .int 5)),
  (57, .goto 121, 3, (178, 0, 0, .null)),
  (60, .lload_n 0, 1, (0, 0, 0, .null)),
  (61, .ldc2_w 123, 3, (0, 0, 963, .long 113715422847340)),
  (64, .lcmp, 1, (0, 0, 0, .null)),
  (65, .ifCond .ne 8, 3, (73, 0, 0, .null)),
  (68, .bipush 6, 2, (0, 0, 0, .int 6)),
  (70, .goto 108, 3, (178, 0, 0, .null)),
  (73, .lload_n 0, 1, (0, 0, 0, .null)),
  (74, .ldc2_w 125, 3, (0, 0, 964, .long 26982)),
  (77, .lcmp, 1, (0, 0, 0, .null)),
  (78, .ifCond .ne 8, 3, (86, 0, 0, .null)),
  (81, .bipush 7, 2, (0, 0, 0, .int 7)),
  (83, .goto 95, 3, (178, 0, 0, .null)),
  (86, .lload_n 0, 1, (0, 0, 0, .null)),
  (87, .ldc2_w 127, 3, (0, 0, 965, .long 115918758703732)),
  (90, .lcmp, 1, (0, 0, 0, .null)),
  (91, .ifCond .ne 8, 3, (99, 0, 0, .null)),
  (94, .bipush 8, 2, (0, 0, 0, .int 8)),
  (96, .goto 82, 3, (178, 0, 0, .null)),
  (99, .lload_n 0, 1, (0, 0, 0, .null)),
  (100, .ldc2_w 129, 3, (0, 0, 966, .long 26990)),
  (103, .lcmp, 1, (0, 0, 0, .null)),
  (104, .ifCond .ne 8, 3, (112, 0, 0, .null)),
  (107, .bipush 9, 2, (0, 0, 0, .int 9)),
  (109, .goto 69, 3, (178, 0, 0, .null)),
  (112, .lload_n 0, 1, (0, 0, 0, .null)),
  (113, .ldc2_w 131, 3, (0, 0, 967, .long 119165702792289)),
  (116, .lcmp, 1, (0, 0, 0, .null)),
  (117, .ifCond .ne 8, 3, (125, 0, 0, .null)),
  (120, .bipush 10, 2, (0, 0, 0, .int 10)),
  (122, .goto 56, 3, (178, 0, 0, .null)),
  (125, .lload_n 0, 1, (0, 0, 0, .null)),
  (126, .ldc2_w 133, 3, (0, 0, 968, .long 7957700478591263084)),
  (129, .lcmp, 1, (0, 0, 0, .null)),
  (130, .ifCond .ne 8, 3, (138, 0, 0, .null)),
  (133, .bipush 11, 2, (0, 0, 0, .int 11)),
  (135, .goto 43, 3, (178, 0, 0, .null)),
  (138, .lload_n 0, 1, (0, 0, 0, .null)),
  (139, .ldc2_w 135, 3, (0, 0, 969, .long 1885434739)),
  (142, .lcmp, 1, (0, 0, 0, .null)),
  (143, .ifCond .ne 8, 3, (151, 0, 0, .null)),
  (146, .bipush 12, 2, (0, 0, 0, .int 12)),
  (148, .goto 30, 3, (178, 0, 0, .null)),
  (151, .lload_n 0, 1, (0, 0, 0, .null)),
  (152, .ldc2_w 137, 3, (0, 0, 970, .long 125780071117422)),
  (155, .lcmp, 1, (0, 0, 0, .null)),
  (156, .ifCond .ne 8, 3, (164, 0, 0, .null)),
  (159, .bipush 13, 2, (0, 0, 0, .int 13)),
  (161, .goto 17, 3, (178, 0, 0, .null)),
  (164, .lload_n 0, 1, (0, 0, 0, .null)),
  (165, .ldc2_w 139, 3, (0, 0, 971, .long 512852847717)),
  (168, .lcmp, 1, (0, 0, 0, .null)),
  (169, .ifCond .ne 8, 3, (177, 0, 0, .null)),
  (172, .bipush 14, 2, (0, 0, 0, .int 14)),
  (174, .goto 4, 3, (178, 0, 0, .null)),
  (177, .iconst 0, 1, (0, 0, 0, .int 0)),
  (178, .ireturn, 1, (0, 0, 0, .null))]
abbrev md_139 : am_M := (⟨"BindingServerModel", "wordOf", "(J)I"⟩, prog_12_method_10_code, 2, some .int, tb_139)
def tb_140 : List am_I := [(0, .aload_n 0, 1, (0, 0, 0, .null)),
  (1, .getfield 23, 3, (9, 6, 795, .null)),
  (4, .aload_n 0, 1, (0, 0, 0, .null)),
  (5, .getfield 141, 3, (9, 5, 794, .null)),
  (8, .iload_n 1, 1, (0, 0, 0, .null)),
  (9, .iastore, 1, (0, 0, 0, .null)),
  (10, .aload_n 0, 1, (0, 0, 0, .null)),
  (11, .getfield 32, 3, (9, 9, 798, .null)),
  (14, .aload_n 0, 1, (0, 0, 0, .null)),
  (15, .getfield 141, 3, (9, 5, 794, .null)),
  (18, .iload_n 2, 1, (0, 0, 0, .null)),
  (19, .iastore, 1, (0, 0, 0, .null)),
  (20, .aload_n 0, 1, (0, 0, 0, .null)),
  (21, .getfield 26, 3, (9, 7, 796, .null)),
  (24, .aload_n 0, 1, (0, 0, 0, .null)),
  (25, .getfield 141, 3, (9, 5, 794, .null)),
  (28, .iload_n 3, 1, (0, 0, 0, .null)),
  (29, .iastore, 1, (0, 0, 0, .null)),
  (30, .aload_n 0, 1, (0, 0, 0, .null)),
  (31, .getfield 29, 3, (9, 8, 797, .null)),
  (34, .aload_n 0, 1, (0, 0, 0, .null)),
  (35, .getfield 141, 3, (9, 5, 794, .null)),
  (38, .iload 4, 2, (0, 0, 0, .null)),
  (40, .iastore, 1, (0, 0, 0, .null)),
  (41, .aload_n 0, 1, (0, 0, 0, .null)),
  (42, .getfield 35, 3, (9, 10, 799, .null)),
  (45, .aload_n 0, 1, (0, 0, 0, .null)),
  (46, .getfield 141, 3, (9, 5, 794, .null)),
  (49, .iconst 0, 1, (0, 0, 0, .int 0)),
  (50, .iastore, 1, (0, 0, 0, .null)),
  (51, .aload_n 0, 1, (0, 0, 0, .null)),
  (52, .dup, 1, (0, 0, 0, .null)),
  (53, .getfield 141, 3, (9, 5, 794, .null)),
  (56, .iconst 1, 1, (0, 0, 0, .int 1)),
  (57, .iadd, 1, (0, 0, 0, .null)),
  (58, .putfield 141, 3, (9, 5, 794, .null)),
  (61, .return_, 1, (0, 0, 0, .null))]
abbrev md_140 : am_M := (⟨"BindingServerModel", "put", "(IIII)V"⟩, prog_12_method_11_code, 5, none, tb_140)
def tb_141 : List am_I := [(0, .aload_n 0, 1, (0, 0, 0, .null)),
  (1, .iconst 0, 1, (0, 0, 0, .int 0)),
  (2, .putfield 141, 3, (9, 5, 794, .null)),
  (5, .iconst 1, 1, (0, 0, 0, .int 1)),
  (6, .istore_n 1, 1, (0, 0, 0, .null)),
  (7, .aload_n 0, 1, (0, 0, 0, .null)),
  (8, .getfield 38, 3, (9, 11, 800, .null)),
  (11, .iconst 0, 1, (0, 0, 0, .int 0)),
  (12, .iconst 0, 1, (0, 0, 0, .int 0)),
  (13, .iastore, 1, (0, 0, 0, .null)),
  (14, .iconst 0, 1, (0, 0, 0, .int 0)),
  (15, .istore_n 2, 1, (0, 0, 0, .null)),
  (16, .iconst 0, 1, (0, 0, 0, .int 0)),
  (17, .istore_n 3, 1, (0, 0, 0, .null)),
  (18, .iconst 0, 1, (0, 0, 0, .int 0)),
  (19, .istore 4, 2, (0, 0, 0, .null)),
  (21, .iconst 0, 1, (0, 0, 0, .int 0)),
  (22, .istore 5, 2, (0, 0, 0, .null)),
  (24, .iload 5, 2, (0, 0, 0, .null)),
  (26, .aload_n 0, 1, (0, 0, 0, .null)),
  (27, .getfield 83, 3, (9, 0, 789, .null)),
  (30, .if_icmp .ge 208, 3, (238, 0, 0, .null)),
  (33, .aload_n 0, 1, (0, 0, 0, .null)),
  (34, .getfield 7, 3, (9, 1, 790, .null)),
  (37, .iload 5, 2, (0, 0, 0, .null)),
  (39, .iaload, 1, (0, 0, 0, .null)),
  (40, .istore 6, 2, (0, 0, 0, .null)),
  (42, .iload 5, 2, (0, 0, 0, .null)),
  (44, .iconst 1, 1, (0, 0, 0, .int 1)),
  (45, .iadd, 1, (0, 0, 0, .null)),
  (46, .istore 7, 2, (0, 0, 0, .null)),
  (48, .iload 6, 2, (0, 0, 0, .null)),
  (50, .bipush 35, 2, (0, 0, 0, .int 35)),
  (52, .if_icmp .ne 30, 3, (82, 0, 0, .null)),
  (55, .iload 7, 2, (0, 0, 0, .null)),
  (57, .aload_n 0, 1, (0, 0, 0, .null)),
  (58, .getfield 83, 3, (9, 0, 789, .null)),
  (61, .if_icmp .ge 170, 3, (231, 0, 0, .null)),
  (64, .aload_n 0, 1, (0, 0, 0, .null)),
  (65, .getfield 7, 3, (9, 1, 790, .null)),
  (68, .iload 7, 2, (0, 0, 0, .null)),
  (70, .iaload, 1, (0, 0, 0, .null)),
  (71, .bipush 10, 2, (0, 0, 0, .int 10)),
  (73, .if_icmp .eq 158, 3, (231, 0, 0, .null)),
  (76, .iinc 7 1, 3, (0, 0, 0, .null)),
  (79, .goto (-24), 3, (55, 0, 0, .null)),
  (82, .iload 6, 2, (0, 0, 0, .null)),
  (84, .bipush 10, 2, (0, 0, 0, .int 10)),
  (86, .if_icmp .ne 22, 3, (108, 0, 0, .null)),
  (89, .iload_n 2, 1, (0, 0, 0, .null)),
  (90, .ifCond .ne 141, 3, (231, 0, 0, .null)),
  (93, .aload_n 0, 1, (0, 0, 0, .null)),
  (94, .iload 4, 2, (0, 0, 0, .null)),
  (96, .invokevirtual 144, 3, (142, 1, 932, .ref 9)),
  (99, .iconst 0, 1, (0, 0, 0, .int 0)),
  (100, .istore 4, 2, (0, 0, 0, .null)),
  (102, .iload 7, 2, (0, 0, 0, .null)),
  (104, .istore_n 3, 1, (0, 0, 0, .null)),
  (105, .goto 126, 3, (231, 0, 0, .null)),
  (108, .iload 6, 2, (0, 0, 0, .null)),
  (110, .bipush 32, 2, (0, 0, 0, .int 32)),
  (112, .if_icmp .eq 119, 3, (231, 0, 0, .null)),
  (115, .iload 4, 2, (0, 0, 0, .null)),
  (117, .ifCond .ne 15, 3, (132, 0, 0, .null)),
  (120, .aload_n 0, 1, (0, 0, 0, .null)),
  (121, .iload_n 1, 1, (0, 0, 0, .null)),
  (122, .iload_n 3, 1, (0, 0, 0, .null)),
  (123, .iload 5, 2, (0, 0, 0, .null)),
  (125, .invokevirtual 148, 3, (143, 3, 940, .ref 9)),
  (128, .istore_n 1, 1, (0, 0, 0, .null)),
  (129, .iconst 1, 1, (0, 0, 0, .int 1)),
  (130, .istore 4, 2, (0, 0, 0, .null)),
  (132, .aload_n 0, 1, (0, 0, 0, .null)),
  (133, .iload 5, 2, (0, 0, 0, .null)),
  (135, .invokevirtual 152, 3, (144, 1, 944, .ref 9)),
  (138, .istore 7, 2, (0, 0, 0, .null)),
  (140, .aload_n 0, 1, (0, 0, 0, .null)),
  (141, .getfield 32, 3, (9, 9, 798, .null)),
  (144, .aload_n 0, 1, (0, 0, 0, .null)),
  (145, .getfield 141, 3, (9, 5, 794, .null)),
  (148, .iconst 1, 1, (0, 0, 0, .int 1)),
  (149, .isub, 1, (0, 0, 0, .null)),
  (150, .iaload, 1, (0, 0, 0, .null)),
  (151, .istore 8, 2, (0, 0, 0, .null)),
  (153, .aload_n 0, 1, (0, 0, 0, .null)),
  (154, .getfield 23, 3, (9, 6, 795, .null)),
  (157, .aload_n 0, 1, (0, 0, 0, .null)),
  (158, .getfield 141, 3, (9, 5, 794, .null)),
  (161, .iconst 1, 1, (0, 0, 0, .int 1)),
  (162, .isub, 1, (0, 0, 0, .null)),
  (163, .iaload, 1, (0, 0, 0, .null)),
  (164, .iconst 3, 1, (0, 0, 0, .int 3)),
  (165, .if_icmp .ne 7, 3, (172, 0, 0, .null)),
  (168, .iconst 1, 1, (0, 0, 0, .int 1)),
  (169, .goto 4, 3, (173, 0, 0, .null)),
  (172, .iconst 0, 1, (0, 0, 0, .int 0)),
  (173, .istore 9, 2, (0, 0, 0, .null)),
  (175, .iload 9, 2, (0, 0, 0, .null)),
  (177, .ifCond .eq 23, 3, (200, 0, 0, .null)),
  (180, .iload 8, 2, (0, 0, 0, .null)),
  (182, .bipush 40, 2, (0, 0, 0, .int 40)),
  (184, .if_icmp .eq 10, 3, (194, 0, 0, .null)),
  (187, .iload 8, 2, (0, 0, 0, .null)),
  (189, .bipush 91, 2, (0, 0, 0, .int 91)),
  (191, .if_icmp .ne 9, 3, (200, 0, 0, .null)),
  (194, .iload_n 2, 1, (0, 0, 0, .null)),
  (195, .iconst 1, 1, (0, 0, 0, .int 1)),
  (196, .iadd, 1, (0, 0, 0, .null)),
  (197, .goto 33, 3, (230, 0, 0, .null)),
  (200, .iload 9, 2, (0, 0, 0, .null)),
  (202, .ifCond .eq 27, 3, (229, 0, 0, .null)),
  (205, .iload 8, 2, (0, 0, 0, .null)),
  (207, .bipush 41, 2, (0, 0, 0, .int 41)),
  (209, .if_icmp .eq 10, 3, (219, 0, 0, .null)),
  (212, .iload 8, 2, (0, 0, 0, .null)),
  (214, .bipush 93, 2, (0, 0, 0, .int 93)),
  (216, .if_icmp .ne 13, 3, (229, 0, 0, .null)),
  (219, .iload_n 2, 1, (0, 0, 0, .null)),
  (220, .ifCond .le 9, 3, (229, 0, 0, .null)),
  (223, .iload_n 2, 1, (0, 0, 0, .null)),
  (224, .iconst 1, 1, (0, 0, 0, .int 1)),
  (225, .isub, 1, (0, 0, 0, .null)),
  (226, .goto 4, 3, (230, 0, 0, .null)),
  (229, .iload_n 2, 1, (0, 0, 0, .null)),
  (230, .istore_n 2, 1, (0, 0, 0, .null)),
  (231, .iload 7, 2, (0, 0, 0, .null)),
  (233, .istore 5, 2, (0, 0, 0, .null)),
  (235, .goto (-211), 3, (24, 0, 0, .null)),
  (238, .aload_n 0, 1, (0, 0, 0, .null)),
  (239, .iload 4, 2, (0, 0, 0, .null)),
  (241, .invokevirtual 144, 3, (142, 1, 932, .ref 9)),
  (244, .iconst 1, 1, (0, 0, 0, .int 1)),
  (245, .istore 6, 2, (0, 0, 0, .null)),
  (247, .iload 6, 2, (0, 0, 0, .null)),
  (249, .iload_n 1, 1, (0, 0, 0, .null)),
  (250, .if_icmp .ge 24, 3, (274, 0, 0, .null)),
  (253, .aload_n 0, 1, (0, 0, 0, .null)),
  (254, .bipush 6, 2, (0, 0, 0, .int 6)),
  (256, .iconst 0, 1, (0, 0, 0, .int 0)),
  (257, .aload_n 0, 1, (0, 0, 0, .null)),
  (258, .getfield 83, 3, (9, 0, 789, .null)),
  (261, .aload_n 0, 1, (0, 0, 0, .null)),
  (262, .getfield 83, 3, (9, 0, 789, .null)),
  (265, .invokevirtual 156, 3, (140, 4, 936, .ref 9)),
  (268, .iinc 6 1, 3, (0, 0, 0, .null)),
  (271, .goto (-24), 3, (247, 0, 0, .null)),
  (274, .aload_n 0, 1, (0, 0, 0, .null)),
  (275, .bipush 7, 2, (0, 0, 0, .int 7)),
  (277, .iconst 0, 1, (0, 0, 0, .int 0)),
  (278, .aload_n 0, 1, (0, 0, 0, .null)),
  (279, .getfield 83, 3, (9, 0, 789, .null)),
  (282, .aload_n 0, 1, (0, 0, 0, .null)),
  (283, .getfield 83, 3, (9, 0, 789, .null)),
  (286, .invokevirtual 156, 3, (140, 4, 936, .ref 9)),
  (289, .return_, 1, (0, 0, 0, .null))]
abbrev md_141 : am_M := (⟨"BindingServerModel", "split", "()V"⟩, prog_12_method_12_code, 10, none, tb_141)
def tb_142 : List am_I := [(0, .iload_n 1, 1, (0, 0, 0, .null)),
  (1, .ifCond .eq 23, 3, (24, 0, 0, .null)),
  (4, .aload_n 0, 1, (0, 0, 0, .null)),
  (5, .getfield 29, 3, (9, 8, 797, .null)),
  (8, .aload_n 0, 1, (0, 0, 0, .null)),
  (9, .getfield 141, 3, (9, 5, 794, .null)),
  (12, .iconst 1, 1, (0, 0, 0, .int 1)),
  (13, .isub, 1, (0, 0, 0, .null)),
  (14, .iaload, 1, (0, 0, 0, .null)),
  (15, .istore_n 2, 1, (0, 0, 0, .null)),
  (16, .aload_n 0, 1, (0, 0, 0, .null)),
  (17, .iconst 4, 1, (0, 0, 0, .int 4)),
  (18, .iconst 0, 1, (0, 0, 0, .int 0)),
  (19, .iload_n 2, 1, (0, 0, 0, .null)),
  (20, .iload_n 2, 1, (0, 0, 0, .null)),
  (21, .invokevirtual 156, 3, (140, 4, 936, .ref 9)),
  (24, .return_, 1, (0, 0, 0, .null))]
abbrev md_142 : am_M := (⟨"BindingServerModel", "endLine", "(Z)V"⟩, prog_12_method_13_code, 3, none, tb_142)
def tb_143 : List am_I := [(0, .iload_n 3, 1, (0, 0, 0, .null)),
  (1, .iload_n 2, 1, (0, 0, 0, .null)),
  (2, .isub, 1, (0, 0, 0, .null)),
  (3, .istore 4, 2, (0, 0, 0, .null)),
  (5, .iload_n 1, 1, (0, 0, 0, .null)),
  (6, .istore 5, 2, (0, 0, 0, .null)),
  (8, .iload 4, 2, (0, 0, 0, .null)),
  (10, .aload_n 0, 1, (0, 0, 0, .null)),
  (11, .getfield 38, 3, (9, 11, 800, .null)),
  (14, .iload 5, 2, (0, 0, 0, .null)),
  (16, .iconst 1, 1, (0, 0, 0, .int 1)),
  (17, .isub, 1, (0, 0, 0, .null)),
  (18, .iaload, 1, (0, 0, 0, .null)),
  (19, .if_icmp .le 25, 3, (44, 0, 0, .null)),
  (22, .aload_n 0, 1, (0, 0, 0, .null)),
  (23, .getfield 38, 3, (9, 11, 800, .null)),
  (26, .iload 5, 2, (0, 0, 0, .null)),
  (28, .iload 4, 2, (0, 0, 0, .null)),
  (30, .iastore, 1, (0, 0, 0, .null)),
  (31, .aload_n 0, 1, (0, 0, 0, .null)),
  (32, .iconst 5, 1, (0, 0, 0, .int 5)),
  (33, .iconst 0, 1, (0, 0, 0, .int 0)),
  (34, .iload_n 3, 1, (0, 0, 0, .null)),
  (35, .iload_n 3, 1, (0, 0, 0, .null)),
  (36, .invokevirtual 156, 3, (140, 4, 936, .ref 9)),
  (39, .iload 5, 2, (0, 0, 0, .null)),
  (41, .iconst 1, 1, (0, 0, 0, .int 1)),
  (42, .iadd, 1, (0, 0, 0, .null)),
  (43, .ireturn, 1, (0, 0, 0, .null)),
  (44, .iload 4, 2, (0, 0, 0, .null)),
  (46, .aload_n 0, 1, (0, 0, 0, .null)),
  (47, .getfield 38, 3, (9, 11, 800, .null)),
  (50, .iload 5, 2, (0, 0, 0, .null)),
  (52, .iconst 1, 1, (0, 0, 0, .int 1)),
  (53, .isub, 1, (0, 0, 0, .null)),
  (54, .iaload, 1, (0, 0, 0, .null)),
  (55, .if_icmp .ge 18, 3, (73, 0, 0, .null)),
  (58, .aload_n 0, 1, (0, 0, 0, .null)),
  (59, .bipush 6, 2, (0, 0, 0, .int 6)),
  (61, .iconst 0, 1, (0, 0, 0, .int 0)),
  (62, .iload_n 3, 1, (0, 0, 0, .null)),
  (63, .iload_n 3, 1, (0, 0, 0, .null)),
  (64, .invokevirtual 156, 3, (140, 4, 936, .ref 9)),
  (67, .iinc 5 (-1), 3, (0, 0, 0, .null)),
  (70, .goto (-26), 3, (44, 0, 0, .null)),
  (73, .iload 4, 2, (0, 0, 0, .null)),
  (75, .aload_n 0, 1, (0, 0, 0, .null)),
  (76, .getfield 38, 3, (9, 11, 800, .null)),
  (79, .iload 5, 2, (0, 0, 0, .null)),
  (81, .iconst 1, 1, (0, 0, 0, .int 1)),
  (82, .isub, 1, (0, 0, 0, .null)),
  (83, .iaload, 1, (0, 0, 0, .null)),
  (84, .if_icmp .eq 12, 3, (96, 0, 0, .null)),
  (87, .aload_n 0, 1, (0, 0, 0, .null)),
  (88, .bipush 8, 2, (0, 0, 0, .int 8)),
  (90, .iconst 0, 1, (0, 0, 0, .int 0)),
  (91, .iload_n 3, 1, (0, 0, 0, .null)),
  (92, .iload_n 3, 1, (0, 0, 0, .null)),
  (93, .invokevirtual 156, 3, (140, 4, 936, .ref 9)),
  (96, .iload 5, 2, (0, 0, 0, .null)),
  (98, .ireturn, 1, (0, 0, 0, .null))]
abbrev md_143 : am_M := (⟨"BindingServerModel", "indent", "(III)I"⟩, prog_12_method_14_code, 6, some .int, tb_143)
def tb_144 : List am_I := [(0, .aload_n 0, 1, (0, 0, 0, .null)),
  (1, .getfield 7, 3, (9, 1, 790, .null)),
  (4, .iload_n 1, 1, (0, 0, 0, .null)),
  (5, .iaload, 1, (0, 0, 0, .null)),
  (6, .istore_n 2, 1, (0, 0, 0, .null)),
  (7, .iload_n 1, 1, (0, 0, 0, .null)),
  (8, .iconst 1, 1, (0, 0, 0, .int 1)),
  (9, .iadd, 1, (0, 0, 0, .null)),
  (10, .istore_n 3, 1, (0, 0, 0, .null)),
  (11, .iload_n 2, 1, (0, 0, 0, .null)),
  (12, .invokestatic 160, 3, (138, 1, 948, .null)),
  (15, .ifCond .eq 101, 3, (116, 0, 0, .null)),
  (18, .iload_n 2, 1, (0, 0, 0, .null)),
  (19, .i2l, 1, (0, 0, 0, .null)),
  (20, .lstore 4, 2, (0, 0, 0, .null)),
  (22, .iload_n 3, 1, (0, 0, 0, .null)),
  (23, .aload_n 0, 1, (0, 0, 0, .null)),
  (24, .getfield 83, 3, (9, 0, 789, .null)),
  (27, .if_icmp .ge 49, 3, (76, 0, 0, .null)),
  (30, .aload_n 0, 1, (0, 0, 0, .null)),
  (31, .getfield 7, 3, (9, 1, 790, .null)),
  (34, .iload_n 3, 1, (0, 0, 0, .null)),
  (35, .iaload, 1, (0, 0, 0, .null)),
  (36, .invokestatic 160, 3, (138, 1, 948, .null)),
  (39, .ifCond .ne 15, 3, (54, 0, 0, .null)),
  (42, .aload_n 0, 1, (0, 0, 0, .null)),
  (43, .getfield 7, 3, (9, 1, 790, .null)),
  (46, .iload_n 3, 1, (0, 0, 0, .null)),
  (47, .iaload, 1, (0, 0, 0, .null)),
  (48, .invokestatic 163, 3, (137, 1, 951, .null)),
  (51, .ifCond .eq 25, 3, (76, 0, 0, .null)),
  (54, .lload 4, 2, (0, 0, 0, .null)),
  (56, .ldc2_w 166, 3, (0, 0, 954, .long 256)),
  (59, .lmul, 1, (0, 0, 0, .null)),
  (60, .aload_n 0, 1, (0, 0, 0, .null)),
  (61, .getfield 7, 3, (9, 1, 790, .null)),
  (64, .iload_n 3, 1, (0, 0, 0, .null)),
  (65, .iaload, 1, (0, 0, 0, .null)),
  (66, .i2l, 1, (0, 0, 0, .null)),
  (67, .ladd, 1, (0, 0, 0, .null)),
  (68, .lstore 4, 2, (0, 0, 0, .null)),
  (70, .iinc 3 1, 3, (0, 0, 0, .null)),
  (73, .goto (-51), 3, (22, 0, 0, .null)),
  (76, .iload_n 3, 1, (0, 0, 0, .null)),
  (77, .iload_n 1, 1, (0, 0, 0, .null)),
  (78, .isub, 1, (0, 0, 0, .null)),
  (79, .bipush 8, 2, (0, 0, 0, .int 8)),
  (81, .if_icmp .le 7, 3, (88, 0, 0, .null)),
  (84, .iconst 0, 1, (0, 0, 0, .int 0)),
  (85, .goto 8, 3, (93, 0, 0, .null)),
  (88, .lload 4, 2, (0, 0, 0, .null)),
  (90, .invokestatic 168, 3, (139, 1, 955, .null)),
  (93, .istore 6, 2, (0, 0, 0, .null)),
  (95, .aload_n 0, 1, (0, 0, 0, .null)),
  (96, .iload 6, 2, (0, 0, 0, .null)),
  (98, .ifCond .le 7, 3, (105, 0, 0, .null)),
  (101, .iconst 2, 1, (0, 0, 0, .int 2)),
  (102, .goto 4, 3, (106, 0, 0, .null)),
  (105, .iconst 0, 1, (0, 0, 0, .int 0)),
  (106, .iload 6, 2, (0, 0, 0, .null)),
  (108, .iload_n 1, 1, (0, 0, 0, .null)),
  (109, .iload_n 3, 1, (0, 0, 0, .null)),
  (110, .invokevirtual 156, 3, (140, 4, 936, .ref 9)),
  (113, .goto 159, 3, (272, 0, 0, .null)),
  (116, .iload_n 2, 1, (0, 0, 0, .null)),
  (117, .invokestatic 163, 3, (137, 1, 951, .null)),
  (120, .ifCond .eq 40, 3, (160, 0, 0, .null)),
  (123, .iload_n 3, 1, (0, 0, 0, .null)),
  (124, .aload_n 0, 1, (0, 0, 0, .null)),
  (125, .getfield 83, 3, (9, 0, 789, .null)),
  (128, .if_icmp .ge 21, 3, (149, 0, 0, .null)),
  (131, .aload_n 0, 1, (0, 0, 0, .null)),
  (132, .getfield 7, 3, (9, 1, 790, .null)),
  (135, .iload_n 3, 1, (0, 0, 0, .null)),
  (136, .iaload, 1, (0, 0, 0, .null)),
  (137, .invokestatic 163, 3, (137, 1, 951, .null)),
  (140, .ifCond .eq 9, 3, (149, 0, 0, .null)),
  (143, .iinc 3 1, 3, (0, 0, 0, .null)),
  (146, .goto (-23), 3, (123, 0, 0, .null)),
  (149, .aload_n 0, 1, (0, 0, 0, .null)),
  (150, .iconst 1, 1, (0, 0, 0, .int 1)),
  (151, .iconst 0, 1, (0, 0, 0, .int 0)),
  (152, .iload_n 1, 1, (0, 0, 0, .null)),
  (153, .iload_n 3, 1, (0, 0, 0, .null)),
  (154, .invokevirtual 156, 3, (140, 4, 936, .ref 9)),
  (157, .goto 115, 3, (272, 0, 0, .null)),
  (160, .iload_n 2, 1, (0, 0, 0, .null)),
  (161, .bipush 58, 2, (0, 0, 0, .int 58)),
  (163, .if_icmp .ne 36, 3, (199, 0, 0, .null)),
  (166, .iload_n 3, 1, (0, 0, 0, .null)),
  (167, .aload_n 0, 1, (0, 0, 0, .null)),
  (168, .getfield 83, 3, (9, 0, 789, .null)),
  (171, .if_icmp .ge 28, 3, (199, 0, 0, .null)),
  (174, .aload_n 0, 1, (0, 0, 0, .null)),
  (175, .getfield 7, 3, (9, 1, 790, .null)),
  (178, .iload_n 3, 1, (0, 0, 0, .null)),
  (179, .iaload, 1, (0, 0, 0, .null)),
  (180, .bipush 61, 2, (0, 0, 0, .int 61)),
  (182, .if_icmp .ne 17, 3, (199, 0, 0, .null)),
  (185, .iinc 3 1, 3, (0, 0, 0, .null)),
  (188, .aload_n 0, 1, (0, 0, 0, .null)),
  (189, .iconst 3, 1, (0, 0, 0, .int 3)),
  (190, .iconst 1, 1, (0, 0, 0, .int 1)),
  (191, .iload_n 1, 1, (0, 0, 0, .null)),
  (192, .iload_n 3, 1, (0, 0, 0, .null)),
  (193, .invokevirtual 156, 3, (140, 4, 936, .ref 9)),
  (196, .goto 76, 3, (272, 0, 0, .null)),
  (199, .iload_n 2, 1, (0, 0, 0, .null)),
  (200, .bipush 40, 2, (0, 0, 0, .int 40)),
  (202, .if_icmp .eq 45, 3, (247, 0, 0, .null)),
  (205, .iload_n 2, 1, (0, 0, 0, .null)),
  (206, .bipush 41, 2, (0, 0, 0, .int 41)),
  (208, .if_icmp .eq 39, 3, (247, 0, 0, .null)),
  (211, .iload_n 2, 1, (0, 0, 0, .null)),
  (212, .bipush 91, 2, (0, 0, 0, .int 91)),
  (214, .if_icmp .eq 33, 3, (247, 0, 0, .null)),
  (217, .iload_n 2, 1, (0, 0, 0, .null)),
  (218, .bipush 93, 2, (0, 0, 0, .int 93)),
  (220, .if_icmp .eq 27, 3, (247, 0, 0, .null)),
  (223, .iload_n 2, 1, (0, 0, 0, .null)),
  (224, .bipush 44, 2, (0, 0, 0, .int 44)),
  (226, .if_icmp .eq 21, 3, (247, 0, 0, .null)),
  (229, .iload_n 2, 1, (0, 0, 0, .null)),
  (230, .bipush 58, 2, (0, 0, 0, .int 58)),
  (232, .if_icmp .eq 15, 3, (247, 0, 0, .null)),
  (235, .iload_n 2, 1, (0, 0, 0, .null)),
  (236, .bipush 61, 2, (0, 0, 0, .int 61)),
  (238, .if_icmp .eq 9, 3, (247, 0, 0, .null)),
  (241, .iload_n 2, 1, (0, 0, 0, .null)),
  (242, .bipush 43, 2, (0, 0, 0, .int 43)),
  (244, .if_icmp .ne 7, 3, (251, 0, 0, .null)),
  (247, .iconst 1, 1, (0, 0, 0, .int 1)),
  (248, .goto 4, 3, (252, 0, 0, .null)),
  (251, .iconst 0, 1, (0, 0, 0, .int 0)),
  (252, .istore 4, 2, (0, 0, 0, .null)),
  (254, .aload_n 0, 1, (0, 0, 0, .null)),
  (255, .iload 4, 2, (0, 0, 0, .null)),
  (257, .ifCond .eq 7, 3, (264, 0, 0, .null)),
  (260, .iconst 3, 1, (0, 0, 0, .int 3)),
  (261, .goto 5, 3, (266, 0, 0, .null)),
  (264, .bipush 8, 2, (0, 0, 0, .int 8)),
  (266, .iload_n 2, 1, (0, 0, 0, .null)),
  (267, .iload_n 1, 1, (0, 0, 0, .null)),
  (268, .iload_n 3, 1, (0, 0, 0, .null)),
  (269, .invokevirtual 156, 3, (140, 4, 936, .ref 9)),
  (272, .iload_n 3, 1, (0, 0, 0, .null)),
  (273, .ireturn, 1, (0, 0, 0, .null))]
abbrev md_144 : am_M := (⟨"BindingServerModel", "one", "(I)I"⟩, prog_12_method_15_code, 7, some .int, tb_144)
def tb_145 : List am_I := [(0, .aload_n 0, 1, (0, 0, 0, .null)),
  (1, .getfield 41, 3, (9, 15, 804, .null)),
  (4, .aload_n 0, 1, (0, 0, 0, .null)),
  (5, .getfield 172, 3, (9, 14, 803, .null)),
  (8, .iload_n 1, 1, (0, 0, 0, .null)),
  (9, .iastore, 1, (0, 0, 0, .null)),
  (10, .aload_n 0, 1, (0, 0, 0, .null)),
  (11, .getfield 44, 3, (9, 16, 805, .null)),
  (14, .aload_n 0, 1, (0, 0, 0, .null)),
  (15, .getfield 172, 3, (9, 14, 803, .null)),
  (18, .iload_n 2, 1, (0, 0, 0, .null)),
  (19, .iastore, 1, (0, 0, 0, .null)),
  (20, .aload_n 0, 1, (0, 0, 0, .null)),
  (21, .dup, 1, (0, 0, 0, .null)),
  (22, .getfield 172, 3, (9, 14, 803, .null)),
  (25, .iconst 1, 1, (0, 0, 0, .int 1)),
  (26, .iadd, 1, (0, 0, 0, .null)),
  (27, .putfield 172, 3, (9, 14, 803, .null)),
  (30, .return_, 1, (0, 0, 0, .null))]
abbrev md_145 : am_M := (⟨"BindingServerModel", "push", "(II)V"⟩, prog_12_method_16_code, 3, none, tb_145)
def tb_146 : List am_I := [(0, .aload_n 0, 1, (0, 0, 0, .null)),
  (1, .bipush 16, 2, (0, 0, 0, .int 16)),
  (3, .sipush 256, 3, (0, 0, 0, .int 256)),
  (6, .iload_n 1, 1, (0, 0, 0, .null)),
  (7, .imul, 1, (0, 0, 0, .null)),
  (8, .iload_n 2, 1, (0, 0, 0, .null)),
  (9, .iadd, 1, (0, 0, 0, .null)),
  (10, .invokevirtual 175, 3, (145, 2, 980, .ref 9)),
  (13, .return_, 1, (0, 0, 0, .null))]
abbrev md_146 : am_M := (⟨"BindingServerModel", "want", "(II)V"⟩, prog_12_method_17_code, 3, none, tb_146)
def tb_147 : List am_I := [(0, .aload_n 0, 1, (0, 0, 0, .null)),
  (1, .getfield 23, 3, (9, 6, 795, .null)),
  (4, .aload_n 0, 1, (0, 0, 0, .null)),
  (5, .getfield 179, 3, (9, 12, 801, .null)),
  (8, .iaload, 1, (0, 0, 0, .null)),
  (9, .iload_n 1, 1, (0, 0, 0, .null)),
  (10, .if_icmp .ne 20, 3, (30, 0, 0, .null)),
  (13, .aload_n 0, 1, (0, 0, 0, .null)),
  (14, .getfield 32, 3, (9, 9, 798, .null)),
  (17, .aload_n 0, 1, (0, 0, 0, .null)),
  (18, .getfield 179, 3, (9, 12, 801, .null)),
  (21, .iaload, 1, (0, 0, 0, .null)),
  (22, .iload_n 2, 1, (0, 0, 0, .null)),
  (23, .if_icmp .ne 7, 3, (30, 0, 0, .null)),
  (26, .iconst 1, 1, (0, 0, 0, .int 1)),
  (27, .goto 4, 3, (31, 0, 0, .null)),
  (30, .iconst 0, 1, (0, 0, 0, .int 0)),
  (31, .ireturn, 1, (0, 0, 0, .null))]
abbrev md_147 : am_M := (⟨"BindingServerModel", "is", "(II)Z"⟩, prog_12_method_18_code, 3, some .boolean, tb_147)
def tb_148 : List am_I := [(0, .aload_n 0, 1, (0, 0, 0, .null)),
  (1, .iload_n 1, 1, (0, 0, 0, .null)),
  (2, .putfield 101, 3, (9, 18, 807, .null)),
  (5, .aload_n 0, 1, (0, 0, 0, .null)),
  (6, .aload_n 0, 1, (0, 0, 0, .null)),
  (7, .getfield 179, 3, (9, 12, 801, .null)),
  (10, .putfield 182, 3, (9, 19, 808, .null)),
  (13, .return_, 1, (0, 0, 0, .null))]
abbrev md_148 : am_M := (⟨"BindingServerModel", "fail", "(I)V"⟩, prog_12_method_19_code, 2, none, tb_148)
def tb_149 : List am_I := [(0, .aload_n 0, 1, (0, 0, 0, .null)),
  (1, .getfield 23, 3, (9, 6, 795, .null)),
  (4, .aload_n 0, 1, (0, 0, 0, .null)),
  (5, .getfield 179, 3, (9, 12, 801, .null)),
  (8, .iaload, 1, (0, 0, 0, .null)),
  (9, .iconst 4, 1, (0, 0, 0, .int 4)),
  (10, .if_icmp .ge 16, 3, (26, 0, 0, .null)),
  (13, .aload_n 0, 1, (0, 0, 0, .null)),
  (14, .aload_n 0, 1, (0, 0, 0, .null)),
  (15, .getfield 29, 3, (9, 8, 797, .null)),
  (18, .aload_n 0, 1, (0, 0, 0, .null)),
  (19, .getfield 179, 3, (9, 12, 801, .null)),
  (22, .iaload, 1, (0, 0, 0, .null)),
  (23, .putfield 185, 3, (9, 17, 806, .null)),
  (26, .aload_n 0, 1, (0, 0, 0, .null)),
  (27, .dup, 1, (0, 0, 0, .null)),
  (28, .getfield 179, 3, (9, 12, 801, .null)),
  (31, .iconst 1, 1, (0, 0, 0, .int 1)),
  (32, .iadd, 1, (0, 0, 0, .null)),
  (33, .putfield 179, 3, (9, 12, 801, .null)),
  (36, .return_, 1, (0, 0, 0, .null))]
abbrev md_149 : am_M := (⟨"BindingServerModel", "shift", "()V"⟩, prog_12_method_20_code, 1, none, tb_149)
def tb_150 : List am_I := [(0, .aload_n 0, 1, (0, 0, 0, .null)),
  (1, .getfield 47, 3, (9, 21, 810, .null)),
  (4, .aload_n 0, 1, (0, 0, 0, .null)),
  (5, .getfield 188, 3, (9, 20, 809, .null)),
  (8, .iload_n 1, 1, (0, 0, 0, .null)),
  (9, .iastore, 1, (0, 0, 0, .null)),
  (10, .aload_n 0, 1, (0, 0, 0, .null)),
  (11, .getfield 50, 3, (9, 22, 811, .null)),
  (14, .aload_n 0, 1, (0, 0, 0, .null)),
  (15, .getfield 188, 3, (9, 20, 809, .null)),
  (18, .aload_n 0, 1, (0, 0, 0, .null)),
  (19, .getfield 185, 3, (9, 17, 806, .null)),
  (22, .iastore, 1, (0, 0, 0, .null)),
  (23, .aload_n 0, 1, (0, 0, 0, .null)),
  (24, .dup, 1, (0, 0, 0, .null)),
  (25, .getfield 188, 3, (9, 20, 809, .null)),
  (28, .iconst 1, 1, (0, 0, 0, .int 1)),
  (29, .iadd, 1, (0, 0, 0, .null)),
  (30, .putfield 188, 3, (9, 20, 809, .null)),
  (33, .return_, 1, (0, 0, 0, .null))]
abbrev md_150 : am_M := (⟨"BindingServerModel", "span", "(I)V"⟩, prog_12_method_21_code, 2, none, tb_150)
def tb_151 : List am_I := [(0, .aload_n 0, 1, (0, 0, 0, .null)),
  (1, .getfield 53, 3, (9, 24, 813, .null)),
  (4, .aload_n 0, 1, (0, 0, 0, .null)),
  (5, .getfield 191, 3, (9, 23, 812, .null)),
  (8, .iload_n 1, 1, (0, 0, 0, .null)),
  (9, .iastore, 1, (0, 0, 0, .null)),
  (10, .aload_n 0, 1, (0, 0, 0, .null)),
  (11, .getfield 56, 3, (9, 25, 814, .null)),
  (14, .aload_n 0, 1, (0, 0, 0, .null)),
  (15, .getfield 191, 3, (9, 23, 812, .null)),
  (18, .iload_n 2, 1, (0, 0, 0, .null)),
  (19, .iastore, 1, (0, 0, 0, .null)),
  (20, .aload_n 0, 1, (0, 0, 0, .null)),
  (21, .getfield 59, 3, (9, 26, 815, .null)),
  (24, .aload_n 0, 1, (0, 0, 0, .null)),
  (25, .getfield 191, 3, (9, 23, 812, .null)),
  (28, .iload_n 2, 1, (0, 0, 0, .null)),
  (29, .iconst 1, 1, (0, 0, 0, .int 1)),
  (30, .iadd, 1, (0, 0, 0, .null)),
  (31, .iastore, 1, (0, 0, 0, .null)),
  (32, .aload_n 0, 1, (0, 0, 0, .null)),
  (33, .getfield 62, 3, (9, 27, 816, .null)),
  (36, .aload_n 0, 1, (0, 0, 0, .null)),
  (37, .getfield 191, 3, (9, 23, 812, .null)),
  (40, .iload_n 2, 1, (0, 0, 0, .null)),
  (41, .iconst 1, 1, (0, 0, 0, .int 1)),
  (42, .iadd, 1, (0, 0, 0, .null)),
  (43, .iastore, 1, (0, 0, 0, .null)),
  (44, .aload_n 0, 1, (0, 0, 0, .null)),
  (45, .getfield 65, 3, (9, 28, 817, .null)),
  (48, .aload_n 0, 1, (0, 0, 0, .null)),
  (49, .getfield 191, 3, (9, 23, 812, .null)),
  (52, .iconst (-1), 1, (0, 0, 0, .int (-1))),
  (53, .iastore, 1, (0, 0, 0, .null)),
  (54, .aload_n 0, 1, (0, 0, 0, .null)),
  (55, .getfield 68, 3, (9, 29, 818, .null)),
  (58, .aload_n 0, 1, (0, 0, 0, .null)),
  (59, .getfield 191, 3, (9, 23, 812, .null)),
  (62, .iconst (-1), 1, (0, 0, 0, .int (-1))),
  (63, .iastore, 1, (0, 0, 0, .null)),
  (64, .aload_n 0, 1, (0, 0, 0, .null)),
  (65, .getfield 71, 3, (9, 30, 819, .null)),
  (68, .aload_n 0, 1, (0, 0, 0, .null)),
  (69, .getfield 191, 3, (9, 23, 812, .null)),
  (72, .iconst (-1), 1, (0, 0, 0, .int (-1))),
  (73, .iastore, 1, (0, 0, 0, .null)),
  (74, .aload_n 0, 1, (0, 0, 0, .null)),
  (75, .dup, 1, (0, 0, 0, .null)),
  (76, .getfield 191, 3, (9, 23, 812, .null)),
  (79, .iconst 1, 1, (0, 0, 0, .int 1)),
  (80, .iadd, 1, (0, 0, 0, .null)),
  (81, .putfield 191, 3, (9, 23, 812, .null)),
  (84, .aload_n 0, 1, (0, 0, 0, .null)),
  (85, .getfield 191, 3, (9, 23, 812, .null)),
  (88, .iconst 1, 1, (0, 0, 0, .int 1)),
  (89, .isub, 1, (0, 0, 0, .null)),
  (90, .ireturn, 1, (0, 0, 0, .null))]
abbrev md_151 : am_M := (⟨"BindingServerModel", "scopeOf", "(II)I"⟩, prog_12_method_22_code, 3, some .int, tb_151)
def tb_152 : List am_I := [(0, .aload_n 0, 1, (0, 0, 0, .null)),
  (1, .getfield 194, 3, (9, 13, 802, .null)),
  (4, .bipush 10, 2, (0, 0, 0, .int 10)),
  (6, .if_icmp .ne 11, 3, (17, 0, 0, .null)),
  (9, .aload_n 0, 1, (0, 0, 0, .null)),
  (10, .bipush 21, 2, (0, 0, 0, .int 21)),
  (12, .invokevirtual 197, 3, (148, 1, 1024, .ref 9)),
  (15, .iconst 0, 1, (0, 0, 0, .int 0)),
  (16, .ireturn, 1, (0, 0, 0, .null)),
  (17, .aload_n 0, 1, (0, 0, 0, .null)),
  (18, .dup, 1, (0, 0, 0, .null)),
  (19, .getfield 194, 3, (9, 13, 802, .null)),
  (22, .iconst 1, 1, (0, 0, 0, .int 1)),
  (23, .iadd, 1, (0, 0, 0, .null)),
  (24, .putfield 194, 3, (9, 13, 802, .null)),
  (27, .aload_n 0, 1, (0, 0, 0, .null)),
  (28, .invokevirtual 201, 3, (149, 0, 992, .ref 9)),
  (31, .iconst 1, 1, (0, 0, 0, .int 1)),
  (32, .ireturn, 1, (0, 0, 0, .null))]
abbrev md_152 : am_M := (⟨"BindingServerModel", "deeper", "()Z"⟩, prog_12_method_23_code, 1, some .boolean, tb_152)
def tb_153 : List am_I := [(0, .aload_n 0, 1, (0, 0, 0, .null)),
  (1, .iconst 0, 1, (0, 0, 0, .int 0)),
  (2, .putfield 179, 3, (9, 12, 801, .null)),
  (5, .aload_n 0, 1, (0, 0, 0, .null)),
  (6, .iconst 0, 1, (0, 0, 0, .int 0)),
  (7, .putfield 194, 3, (9, 13, 802, .null)),
  (10, .aload_n 0, 1, (0, 0, 0, .null)),
  (11, .iconst 0, 1, (0, 0, 0, .int 0)),
  (12, .putfield 172, 3, (9, 14, 803, .null)),
  (15, .aload_n 0, 1, (0, 0, 0, .null)),
  (16, .iconst 0, 1, (0, 0, 0, .int 0)),
  (17, .putfield 101, 3, (9, 18, 807, .null)),
  (20, .aload_n 0, 1, (0, 0, 0, .null)),
  (21, .iconst 0, 1, (0, 0, 0, .int 0)),
  (22, .putfield 188, 3, (9, 20, 809, .null)),
  (25, .aload_n 0, 1, (0, 0, 0, .null)),
  (26, .iconst 0, 1, (0, 0, 0, .int 0)),
  (27, .putfield 191, 3, (9, 23, 812, .null)),
  (30, .aload_n 0, 1, (0, 0, 0, .null)),
  (31, .iconst 0, 1, (0, 0, 0, .int 0)),
  (32, .putfield 185, 3, (9, 17, 806, .null)),
  (35, .aload_n 0, 1, (0, 0, 0, .null)),
  (36, .iconst 0, 1, (0, 0, 0, .int 0)),
  (37, .iconst (-1), 1, (0, 0, 0, .int (-1))),
  (38, .invokevirtual 204, 3, (151, 2, 976, .ref 9)),
  (41, .istore_n 1, 1, (0, 0, 0, .null)),
  (42, .aload_n 0, 1, (0, 0, 0, .null)),
  (43, .getfield 62, 3, (9, 27, 816, .null)),
  (46, .iload_n 1, 1, (0, 0, 0, .null)),
  (47, .aload_n 0, 1, (0, 0, 0, .null)),
  (48, .getfield 141, 3, (9, 5, 794, .null)),
  (51, .iastore, 1, (0, 0, 0, .null)),
  (52, .aload_n 0, 1, (0, 0, 0, .null)),
  (53, .iconst 1, 1, (0, 0, 0, .int 1)),
  (54, .iconst 0, 1, (0, 0, 0, .int 0)),
  (55, .invokevirtual 175, 3, (145, 2, 980, .ref 9)),
  (58, .aload_n 0, 1, (0, 0, 0, .null)),
  (59, .getfield 172, 3, (9, 14, 803, .null)),
  (62, .ifCond .le 45, 3, (107, 0, 0, .null)),
  (65, .aload_n 0, 1, (0, 0, 0, .null)),
  (66, .getfield 101, 3, (9, 18, 807, .null)),
  (69, .ifCond .ne 38, 3, (107, 0, 0, .null)),
  (72, .aload_n 0, 1, (0, 0, 0, .null)),
  (73, .dup, 1, (0, 0, 0, .null)),
  (74, .getfield 172, 3, (9, 14, 803, .null)),
  (77, .iconst 1, 1, (0, 0, 0, .int 1)),
  (78, .isub, 1, (0, 0, 0, .null)),
  (79, .putfield 172, 3, (9, 14, 803, .null)),
  (82, .aload_n 0, 1, (0, 0, 0, .null)),
  (83, .aload_n 0, 1, (0, 0, 0, .null)),
  (84, .getfield 41, 3, (9, 15, 804, .null)),
  (87, .aload_n 0, 1, (0, 0, 0, .null)),
  (88, .getfield 172, 3, (9, 14, 803, .null)),
  (91, .iaload, 1, (0, 0, 0, .null)),
  (92, .aload_n 0, 1, (0, 0, 0, .null)),
  (93, .getfield 44, 3, (9, 16, 805, .null)),
  (96, .aload_n 0, 1, (0, 0, 0, .null)),
  (97, .getfield 172, 3, (9, 14, 803, .null)),
  (100, .iaload, 1, (0, 0, 0, .null)),
  (101, .invokevirtual 208, 3, (154, 2, 984, .ref 9)),
  (104, .goto (-46), 3, (58, 0, 0, .null)),
  (107, .return_, 1, (0, 0, 0, .null))]
abbrev md_153 : am_M := (⟨"BindingServerModel", "parse", "()V"⟩, prog_12_method_24_code, 2, none, tb_153)
def tb_154 : List am_I := [(0, .iload_n 1, 1, (0, 0, 0, .null)),
  (1, .iconst 1, 1, (0, 0, 0, .int 1)),
  (2, .if_icmp .ne 32, 3, (34, 0, 0, .null)),
  (5, .aload_n 0, 1, (0, 0, 0, .null)),
  (6, .getfield 23, 3, (9, 6, 795, .null)),
  (9, .aload_n 0, 1, (0, 0, 0, .null)),
  (10, .getfield 179, 3, (9, 12, 801, .null)),
  (13, .iaload, 1, (0, 0, 0, .null)),
  (14, .bipush 7, 2, (0, 0, 0, .int 7)),
  (16, .if_icmp .eq 260, 3, (276, 0, 0, .null)),
  (19, .aload_n 0, 1, (0, 0, 0, .null)),
  (20, .iconst 1, 1, (0, 0, 0, .int 1)),
  (21, .iconst 0, 1, (0, 0, 0, .int 0)),
  (22, .invokevirtual 175, 3, (145, 2, 980, .ref 9)),
  (25, .aload_n 0, 1, (0, 0, 0, .null)),
  (26, .iconst 2, 1, (0, 0, 0, .int 2)),
  (27, .iconst 0, 1, (0, 0, 0, .int 0)),
  (28, .invokevirtual 175, 3, (145, 2, 980, .ref 9)),
  (31, .goto 245, 3, (276, 0, 0, .null)),
  (34, .iload_n 1, 1, (0, 0, 0, .null)),
  (35, .iconst 2, 1, (0, 0, 0, .int 2)),
  (36, .if_icmp .ne 24, 3, (60, 0, 0, .null)),
  (39, .aload_n 0, 1, (0, 0, 0, .null)),
  (40, .iconst 3, 1, (0, 0, 0, .int 3)),
  (41, .aload_n 0, 1, (0, 0, 0, .null)),
  (42, .getfield 26, 3, (9, 7, 796, .null)),
  (45, .aload_n 0, 1, (0, 0, 0, .null)),
  (46, .getfield 179, 3, (9, 12, 801, .null)),
  (49, .iaload, 1, (0, 0, 0, .null)),
  (50, .invokevirtual 175, 3, (145, 2, 980, .ref 9)),
  (53, .aload_n 0, 1, (0, 0, 0, .null)),
  (54, .invokevirtual 211, 3, (155, 0, 988, .ref 9)),
  (57, .goto 219, 3, (276, 0, 0, .null)),
  (60, .iload_n 1, 1, (0, 0, 0, .null)),
  (61, .iconst 3, 1, (0, 0, 0, .int 3)),
  (62, .if_icmp .eq 9, 3, (71, 0, 0, .null)),
  (65, .iload_n 1, 1, (0, 0, 0, .null)),
  (66, .bipush 6, 2, (0, 0, 0, .int 6)),
  (68, .if_icmp .ne 11, 3, (79, 0, 0, .null)),
  (71, .aload_n 0, 1, (0, 0, 0, .null)),
  (72, .iload_n 2, 1, (0, 0, 0, .null)),
  (73, .invokevirtual 214, 3, (150, 1, 1000, .ref 9)),
  (76, .goto 200, 3, (276, 0, 0, .null)),
  (79, .iload_n 1, 1, (0, 0, 0, .null)),
  (80, .iconst 4, 1, (0, 0, 0, .int 4)),
  (81, .if_icmp .ne 10, 3, (91, 0, 0, .null)),
  (84, .aload_n 0, 1, (0, 0, 0, .null)),
  (85, .invokevirtual 217, 3, (156, 0, 1004, .ref 9)),
  (88, .goto 188, 3, (276, 0, 0, .null)),
  (91, .iload_n 1, 1, (0, 0, 0, .null)),
  (92, .iconst 5, 1, (0, 0, 0, .int 5)),
  (93, .if_icmp .ne 10, 3, (103, 0, 0, .null)),
  (96, .aload_n 0, 1, (0, 0, 0, .null)),
  (97, .invokevirtual 220, 3, (158, 0, 1016, .ref 9)),
  (100, .goto 176, 3, (276, 0, 0, .null)),
  (103, .iload_n 1, 1, (0, 0, 0, .null)),
  (104, .bipush 8, 2, (0, 0, 0, .int 8)),
  (106, .if_icmp .ne 10, 3, (116, 0, 0, .null)),
  (109, .aload_n 0, 1, (0, 0, 0, .null)),
  (110, .invokevirtual 223, 3, (159, 0, 1028, .ref 9)),
  (113, .goto 163, 3, (276, 0, 0, .null)),
  (116, .iload_n 1, 1, (0, 0, 0, .null)),
  (117, .bipush 7, 2, (0, 0, 0, .int 7)),
  (119, .if_icmp .ne 39, 3, (158, 0, 0, .null)),
  (122, .aload_n 0, 1, (0, 0, 0, .null)),
  (123, .iload_n 2, 1, (0, 0, 0, .null)),
  (124, .invokevirtual 214, 3, (150, 1, 1000, .ref 9)),
  (127, .aload_n 0, 1, (0, 0, 0, .null)),
  (128, .iconst 3, 1, (0, 0, 0, .int 3)),
  (129, .bipush 43, 2, (0, 0, 0, .int 43)),
  (131, .invokevirtual 226, 3, (147, 2, 1012, .ref 9)),
  (134, .ifCond .eq 142, 3, (276, 0, 0, .null)),
  (137, .aload_n 0, 1, (0, 0, 0, .null)),
  (138, .invokevirtual 201, 3, (149, 0, 992, .ref 9)),
  (141, .aload_n 0, 1, (0, 0, 0, .null)),
  (142, .bipush 7, 2, (0, 0, 0, .int 7)),
  (144, .iload_n 2, 1, (0, 0, 0, .null)),
  (145, .invokevirtual 175, 3, (145, 2, 980, .ref 9)),
  (148, .aload_n 0, 1, (0, 0, 0, .null)),
  (149, .bipush 8, 2, (0, 0, 0, .int 8)),
  (151, .iconst 0, 1, (0, 0, 0, .int 0)),
  (152, .invokevirtual 175, 3, (145, 2, 980, .ref 9)),
  (155, .goto 121, 3, (276, 0, 0, .null)),
  (158, .iload_n 1, 1, (0, 0, 0, .null)),
  (159, .bipush 9, 2, (0, 0, 0, .int 9)),
  (161, .if_icmp .ne 11, 3, (172, 0, 0, .null)),
  (164, .aload_n 0, 1, (0, 0, 0, .null)),
  (165, .iload_n 2, 1, (0, 0, 0, .null)),
  (166, .invokevirtual 230, 3, (160, 1, 1032, .ref 9)),
  (169, .goto 107, 3, (276, 0, 0, .null)),
  (172, .iload_n 1, 1, (0, 0, 0, .null)),
  (173, .bipush 14, 2, (0, 0, 0, .int 14)),
  (175, .if_icmp .gt 12, 3, (187, 0, 0, .null)),
  (178, .aload_n 0, 1, (0, 0, 0, .null)),
  (179, .iload_n 1, 1, (0, 0, 0, .null)),
  (180, .iload_n 2, 1, (0, 0, 0, .null)),
  (181, .invokevirtual 233, 3, (161, 2, 1036, .ref 9)),
  (184, .goto 92, 3, (276, 0, 0, .null)),
  (187, .iload_n 1, 1, (0, 0, 0, .null)),
  (188, .bipush 16, 2, (0, 0, 0, .int 16)),
  (190, .if_icmp .ne 36, 3, (226, 0, 0, .null)),
  (193, .aload_n 0, 1, (0, 0, 0, .null)),
  (194, .iload_n 2, 1, (0, 0, 0, .null)),
  (195, .sipush 256, 3, (0, 0, 0, .int 256)),
  (198, .idiv, 1, (0, 0, 0, .null)),
  (199, .iload_n 2, 1, (0, 0, 0, .null)),
  (200, .sipush 256, 3, (0, 0, 0, .int 256)),
  (203, .irem, 1, (0, 0, 0, .null)),
  (204, .invokevirtual 226, 3, (147, 2, 1012, .ref 9)),
  (207, .ifCond .eq 10, 3, (217, 0, 0, .null)),
  (210, .aload_n 0, 1, (0, 0, 0, .null)),
  (211, .invokevirtual 201, 3, (149, 0, 992, .ref 9)),
  (214, .goto 62, 3, (276, 0, 0, .null)),
  (217, .aload_n 0, 1, (0, 0, 0, .null)),
  (218, .bipush 20, 2, (0, 0, 0, .int 20)),
  (220, .invokevirtual 197, 3, (148, 1, 1024, .ref 9)),
  (223, .goto 53, 3, (276, 0, 0, .null)),
  (226, .iload_n 1, 1, (0, 0, 0, .null)),
  (227, .bipush 17, 2, (0, 0, 0, .int 17)),
  (229, .if_icmp .ne 41, 3, (270, 0, 0, .null)),
  (232, .aload_n 0, 1, (0, 0, 0, .null)),
  (233, .getfield 23, 3, (9, 6, 795, .null)),
  (236, .aload_n 0, 1, (0, 0, 0, .null)),
  (237, .getfield 179, 3, (9, 12, 801, .null)),
  (240, .iaload, 1, (0, 0, 0, .null)),
  (241, .ifCond .ne 20, 3, (261, 0, 0, .null)),
  (244, .aload_n 0, 1, (0, 0, 0, .null)),
  (245, .getfield 35, 3, (9, 10, 799, .null)),
  (248, .aload_n 0, 1, (0, 0, 0, .null)),
  (249, .getfield 179, 3, (9, 12, 801, .null)),
  (252, .iload_n 2, 1, (0, 0, 0, .null)),
  (253, .iastore, 1, (0, 0, 0, .null)),
  (254, .aload_n 0, 1, (0, 0, 0, .null)),
  (255, .invokevirtual 201, 3, (149, 0, 992, .ref 9)),
  (258, .goto 18, 3, (276, 0, 0, .null)),
  (261, .aload_n 0, 1, (0, 0, 0, .null)),
  (262, .bipush 20, 2, (0, 0, 0, .int 20)),
  (264, .invokevirtual 197, 3, (148, 1, 1024, .ref 9)),
  (267, .goto 9, 3, (276, 0, 0, .null)),
  (270, .aload_n 0, 1, (0, 0, 0, .null)),
  (271, .iload_n 1, 1, (0, 0, 0, .null)),
  (272, .iload_n 2, 1, (0, 0, 0, .null)),
  (273, .invokevirtual 236, 3, (162, 2, 1040, .ref 9)),
  (276, .return_, 1, (0, 0, 0, .null))]
abbrev md_154 : am_M := (⟨"BindingServerModel", "step", "(II)V"⟩, prog_12_method_25_code, 3, none, tb_154)
def tb_155 : List am_I := [(0, .aload_n 0, 1, (0, 0, 0, .null)),
  (1, .getfield 23, 3, (9, 6, 795, .null)),
  (4, .aload_n 0, 1, (0, 0, 0, .null)),
  (5, .getfield 179, 3, (9, 12, 801, .null)),
  (8, .iaload, 1, (0, 0, 0, .null)),
  (9, .iconst 2, 1, (0, 0, 0, .int 2)),
  (10, .if_icmp .ne 15, 3, (25, 0, 0, .null)),
  (13, .aload_n 0, 1, (0, 0, 0, .null)),
  (14, .getfield 32, 3, (9, 9, 798, .null)),
  (17, .aload_n 0, 1, (0, 0, 0, .null)),
  (18, .getfield 179, 3, (9, 12, 801, .null)),
  (21, .iaload, 1, (0, 0, 0, .null)),
  (22, .goto 4, 3, (26, 0, 0, .null)),
  (25, .iconst 0, 1, (0, 0, 0, .int 0)),
  (26, .istore_n 1, 1, (0, 0, 0, .null)),
  (27, .iload_n 1, 1, (0, 0, 0, .null)),
  (28, .iconst 2, 1, (0, 0, 0, .int 2)),
  (29, .if_icmp .ne 67, 3, (96, 0, 0, .null)),
  (32, .aload_n 0, 1, (0, 0, 0, .null)),
  (33, .iconst 1, 1, (0, 0, 0, .int 1)),
  (34, .aload_n 0, 1, (0, 0, 0, .null)),
  (35, .getfield 179, 3, (9, 12, 801, .null)),
  (38, .invokevirtual 204, 3, (151, 2, 976, .ref 9)),
  (41, .istore_n 2, 1, (0, 0, 0, .null)),
  (42, .aload_n 0, 1, (0, 0, 0, .null)),
  (43, .invokevirtual 201, 3, (149, 0, 992, .ref 9)),
  (46, .aload_n 0, 1, (0, 0, 0, .null)),
  (47, .bipush 12, 2, (0, 0, 0, .int 12)),
  (49, .iload_n 2, 1, (0, 0, 0, .null)),
  (50, .invokevirtual 175, 3, (145, 2, 980, .ref 9)),
  (53, .aload_n 0, 1, (0, 0, 0, .null)),
  (54, .iconst 3, 1, (0, 0, 0, .int 3)),
  (55, .bipush 41, 2, (0, 0, 0, .int 41)),
  (57, .invokevirtual 239, 3, (146, 2, 996, .ref 9)),
  (60, .aload_n 0, 1, (0, 0, 0, .null)),
  (61, .bipush 11, 2, (0, 0, 0, .int 11)),
  (63, .iconst 0, 1, (0, 0, 0, .int 0)),
  (64, .invokevirtual 175, 3, (145, 2, 980, .ref 9)),
  (67, .aload_n 0, 1, (0, 0, 0, .null)),
  (68, .iconst 3, 1, (0, 0, 0, .int 3)),
  (69, .bipush 40, 2, (0, 0, 0, .int 40)),
  (71, .invokevirtual 239, 3, (146, 2, 996, .ref 9)),
  (74, .aload_n 0, 1, (0, 0, 0, .null)),
  (75, .bipush 17, 2, (0, 0, 0, .int 17)),
  (77, .iconst 1, 1, (0, 0, 0, .int 1)),
  (78, .invokevirtual 175, 3, (145, 2, 980, .ref 9)),
  (81, .aload_n 0, 1, (0, 0, 0, .null)),
  (82, .getfield 59, 3, (9, 26, 815, .null)),
  (85, .iload_n 2, 1, (0, 0, 0, .null)),
  (86, .aload_n 0, 1, (0, 0, 0, .null)),
  (87, .getfield 179, 3, (9, 12, 801, .null)),
  (90, .iconst 1, 1, (0, 0, 0, .int 1)),
  (91, .iadd, 1, (0, 0, 0, .null)),
  (92, .iastore, 1, (0, 0, 0, .null)),
  (93, .goto 141, 3, (234, 0, 0, .null)),
  (96, .iload_n 1, 1, (0, 0, 0, .null)),
  (97, .iconst 1, 1, (0, 0, 0, .int 1)),
  (98, .if_icmp .ne 46, 3, (144, 0, 0, .null)),
  (101, .aload_n 0, 1, (0, 0, 0, .null)),
  (102, .iconst 2, 1, (0, 0, 0, .int 2)),
  (103, .aload_n 0, 1, (0, 0, 0, .null)),
  (104, .getfield 179, 3, (9, 12, 801, .null)),
  (107, .invokevirtual 204, 3, (151, 2, 976, .ref 9)),
  (110, .istore_n 2, 1, (0, 0, 0, .null)),
  (111, .aload_n 0, 1, (0, 0, 0, .null)),
  (112, .invokevirtual 201, 3, (149, 0, 992, .ref 9)),
  (115, .aload_n 0, 1, (0, 0, 0, .null)),
  (116, .bipush 12, 2, (0, 0, 0, .int 12)),
  (118, .iload_n 2, 1, (0, 0, 0, .null)),
  (119, .invokevirtual 175, 3, (145, 2, 980, .ref 9)),
  (122, .aload_n 0, 1, (0, 0, 0, .null)),
  (123, .bipush 17, 2, (0, 0, 0, .int 17)),
  (125, .iconst 1, 1, (0, 0, 0, .int 1)),
  (126, .invokevirtual 175, 3, (145, 2, 980, .ref 9)),
  (129, .aload_n 0, 1, (0, 0, 0, .null)),
  (130, .getfield 59, 3, (9, 26, 815, .null)),
  (133, .iload_n 2, 1, (0, 0, 0, .null)),
  (134, .aload_n 0, 1, (0, 0, 0, .null)),
  (135, .getfield 179, 3, (9, 12, 801, .null)),
  (138, .iconst 1, 1, (0, 0, 0, .int 1)),
  (139, .iadd, 1, (0, 0, 0, .null)),
  (140, .iastore, 1, (0, 0, 0, .null)),
  (141, .goto 93, 3, (234, 0, 0, .null)),
  (144, .iload_n 1, 1, (0, 0, 0, .null)),
  (145, .bipush 7, 2, (0, 0, 0, .int 7)),
  (147, .if_icmp .eq 9, 3, (156, 0, 0, .null)),
  (150, .iload_n 1, 1, (0, 0, 0, .null)),
  (151, .bipush 14, 2, (0, 0, 0, .int 14)),
  (153, .if_icmp .ne 30, 3, (183, 0, 0, .null)),
  (156, .aload_n 0, 1, (0, 0, 0, .null)),
  (157, .invokevirtual 201, 3, (149, 0, 992, .ref 9)),
  (160, .aload_n 0, 1, (0, 0, 0, .null)),
  (161, .bipush 19, 2, (0, 0, 0, .int 19)),
  (163, .iload_n 1, 1, (0, 0, 0, .null)),
  (164, .invokevirtual 175, 3, (145, 2, 980, .ref 9)),
  (167, .aload_n 0, 1, (0, 0, 0, .null)),
  (168, .bipush 12, 2, (0, 0, 0, .int 12)),
  (170, .iconst 0, 1, (0, 0, 0, .int 0)),
  (171, .invokevirtual 175, 3, (145, 2, 980, .ref 9)),
  (174, .aload_n 0, 1, (0, 0, 0, .null)),
  (175, .iconst 5, 1, (0, 0, 0, .int 5)),
  (176, .iconst 0, 1, (0, 0, 0, .int 0)),
  (177, .invokevirtual 175, 3, (145, 2, 980, .ref 9)),
  (180, .goto 54, 3, (234, 0, 0, .null)),
  (183, .iload_n 1, 1, (0, 0, 0, .null)),
  (184, .iconst 5, 1, (0, 0, 0, .int 5)),
  (185, .if_icmp .ne 37, 3, (222, 0, 0, .null)),
  (188, .aload_n 0, 1, (0, 0, 0, .null)),
  (189, .invokevirtual 201, 3, (149, 0, 992, .ref 9)),
  (192, .aload_n 0, 1, (0, 0, 0, .null)),
  (193, .bipush 12, 2, (0, 0, 0, .int 12)),
  (195, .iconst 0, 1, (0, 0, 0, .int 0)),
  (196, .invokevirtual 175, 3, (145, 2, 980, .ref 9)),
  (199, .aload_n 0, 1, (0, 0, 0, .null)),
  (200, .iconst 5, 1, (0, 0, 0, .int 5)),
  (201, .iconst 0, 1, (0, 0, 0, .int 0)),
  (202, .invokevirtual 175, 3, (145, 2, 980, .ref 9)),
  (205, .aload_n 0, 1, (0, 0, 0, .null)),
  (206, .iconst 2, 1, (0, 0, 0, .int 2)),
  (207, .bipush 9, 2, (0, 0, 0, .int 9)),
  (209, .invokevirtual 239, 3, (146, 2, 996, .ref 9)),
  (212, .aload_n 0, 1, (0, 0, 0, .null)),
  (213, .bipush 17, 2, (0, 0, 0, .int 17)),
  (215, .iconst 1, 1, (0, 0, 0, .int 1)),
  (216, .invokevirtual 175, 3, (145, 2, 980, .ref 9)),
  (219, .goto 15, 3, (234, 0, 0, .null)),
  (222, .aload_n 0, 1, (0, 0, 0, .null)),
  (223, .iconst 4, 1, (0, 0, 0, .int 4)),
  (224, .iconst 0, 1, (0, 0, 0, .int 0)),
  (225, .invokevirtual 239, 3, (146, 2, 996, .ref 9)),
  (228, .aload_n 0, 1, (0, 0, 0, .null)),
  (229, .iconst 4, 1, (0, 0, 0, .int 4)),
  (230, .iconst 0, 1, (0, 0, 0, .int 0)),
  (231, .invokevirtual 175, 3, (145, 2, 980, .ref 9)),
  (234, .return_, 1, (0, 0, 0, .null))]
abbrev md_155 : am_M := (⟨"BindingServerModel", "statement", "()V"⟩, prog_12_method_26_code, 3, none, tb_155)
def tb_156 : List am_I := [(0, .aload_n 0, 1, (0, 0, 0, .null)),
  (1, .getfield 23, 3, (9, 6, 795, .null)),
  (4, .aload_n 0, 1, (0, 0, 0, .null)),
  (5, .getfield 179, 3, (9, 12, 801, .null)),
  (8, .iaload, 1, (0, 0, 0, .null)),
  (9, .iconst 2, 1, (0, 0, 0, .int 2)),
  (10, .if_icmp .ne 15, 3, (25, 0, 0, .null)),
  (13, .aload_n 0, 1, (0, 0, 0, .null)),
  (14, .getfield 32, 3, (9, 9, 798, .null)),
  (17, .aload_n 0, 1, (0, 0, 0, .null)),
  (18, .getfield 179, 3, (9, 12, 801, .null)),
  (21, .iaload, 1, (0, 0, 0, .null)),
  (22, .goto 4, 3, (26, 0, 0, .null)),
  (25, .iconst 0, 1, (0, 0, 0, .int 0)),
  (26, .istore_n 1, 1, (0, 0, 0, .null)),
  (27, .iload_n 1, 1, (0, 0, 0, .null)),
  (28, .bipush 12, 2, (0, 0, 0, .int 12)),
  (30, .if_icmp .ne 10, 3, (40, 0, 0, .null)),
  (33, .aload_n 0, 1, (0, 0, 0, .null)),
  (34, .invokevirtual 201, 3, (149, 0, 992, .ref 9)),
  (37, .goto 171, 3, (208, 0, 0, .null)),
  (40, .iload_n 1, 1, (0, 0, 0, .null)),
  (41, .bipush 6, 2, (0, 0, 0, .int 6)),
  (43, .if_icmp .eq 9, 3, (52, 0, 0, .null)),
  (46, .iload_n 1, 1, (0, 0, 0, .null)),
  (47, .bipush 11, 2, (0, 0, 0, .int 11)),
  (49, .if_icmp .ne 36, 3, (85, 0, 0, .null)),
  (52, .iload_n 1, 1, (0, 0, 0, .null)),
  (53, .bipush 6, 2, (0, 0, 0, .int 6)),
  (55, .if_icmp .ne 7, 3, (62, 0, 0, .null)),
  (58, .iconst 4, 1, (0, 0, 0, .int 4)),
  (59, .goto 4, 3, (63, 0, 0, .null)),
  (62, .iconst 5, 1, (0, 0, 0, .int 5)),
  (63, .istore_n 2, 1, (0, 0, 0, .null)),
  (64, .aload_n 0, 1, (0, 0, 0, .null)),
  (65, .invokevirtual 201, 3, (149, 0, 992, .ref 9)),
  (68, .aload_n 0, 1, (0, 0, 0, .null)),
  (69, .bipush 18, 2, (0, 0, 0, .int 18)),
  (71, .iload_n 2, 1, (0, 0, 0, .null)),
  (72, .invokevirtual 175, 3, (145, 2, 980, .ref 9)),
  (75, .aload_n 0, 1, (0, 0, 0, .null)),
  (76, .bipush 17, 2, (0, 0, 0, .int 17)),
  (78, .iload_n 2, 1, (0, 0, 0, .null)),
  (79, .invokevirtual 175, 3, (145, 2, 980, .ref 9)),
  (82, .goto 126, 3, (208, 0, 0, .null)),
  (85, .iload_n 1, 1, (0, 0, 0, .null)),
  (86, .iconst 3, 1, (0, 0, 0, .int 3)),
  (87, .if_icmp .eq 9, 3, (96, 0, 0, .null)),
  (90, .iload_n 1, 1, (0, 0, 0, .null)),
  (91, .bipush 8, 2, (0, 0, 0, .int 8)),
  (93, .if_icmp .ne 17, 3, (110, 0, 0, .null)),
  (96, .aload_n 0, 1, (0, 0, 0, .null)),
  (97, .invokevirtual 201, 3, (149, 0, 992, .ref 9)),
  (100, .aload_n 0, 1, (0, 0, 0, .null)),
  (101, .bipush 17, 2, (0, 0, 0, .int 17)),
  (103, .iconst 1, 1, (0, 0, 0, .int 1)),
  (104, .invokevirtual 175, 3, (145, 2, 980, .ref 9)),
  (107, .goto 101, 3, (208, 0, 0, .null)),
  (110, .iload_n 1, 1, (0, 0, 0, .null)),
  (111, .bipush 13, 2, (0, 0, 0, .int 13)),
  (113, .if_icmp .ne 23, 3, (136, 0, 0, .null)),
  (116, .aload_n 0, 1, (0, 0, 0, .null)),
  (117, .invokevirtual 201, 3, (149, 0, 992, .ref 9)),
  (120, .aload_n 0, 1, (0, 0, 0, .null)),
  (121, .invokevirtual 242, 3, (157, 0, 1008, .ref 9)),
  (124, .ifCond .eq 84, 3, (208, 0, 0, .null)),
  (127, .aload_n 0, 1, (0, 0, 0, .null)),
  (128, .iconst 5, 1, (0, 0, 0, .int 5)),
  (129, .iconst 0, 1, (0, 0, 0, .int 0)),
  (130, .invokevirtual 175, 3, (145, 2, 980, .ref 9)),
  (133, .goto 75, 3, (208, 0, 0, .null)),
  (136, .aload_n 0, 1, (0, 0, 0, .null)),
  (137, .getfield 23, 3, (9, 6, 795, .null)),
  (140, .aload_n 0, 1, (0, 0, 0, .null)),
  (141, .getfield 179, 3, (9, 12, 801, .null)),
  (144, .iaload, 1, (0, 0, 0, .null)),
  (145, .ifCond .ne 57, 3, (202, 0, 0, .null)),
  (148, .aload_n 0, 1, (0, 0, 0, .null)),
  (149, .getfield 23, 3, (9, 6, 795, .null)),
  (152, .aload_n 0, 1, (0, 0, 0, .null)),
  (153, .getfield 179, 3, (9, 12, 801, .null)),
  (156, .iconst 1, 1, (0, 0, 0, .int 1)),
  (157, .iadd, 1, (0, 0, 0, .null)),
  (158, .iaload, 1, (0, 0, 0, .null)),
  (159, .iconst 3, 1, (0, 0, 0, .int 3)),
  (160, .if_icmp .ne 42, 3, (202, 0, 0, .null)),
  (163, .aload_n 0, 1, (0, 0, 0, .null)),
  (164, .getfield 32, 3, (9, 9, 798, .null)),
  (167, .aload_n 0, 1, (0, 0, 0, .null)),
  (168, .getfield 179, 3, (9, 12, 801, .null)),
  (171, .iconst 1, 1, (0, 0, 0, .int 1)),
  (172, .iadd, 1, (0, 0, 0, .null)),
  (173, .iaload, 1, (0, 0, 0, .null)),
  (174, .bipush 61, 2, (0, 0, 0, .int 61)),
  (176, .if_icmp .ne 26, 3, (202, 0, 0, .null)),
  (179, .aload_n 0, 1, (0, 0, 0, .null)),
  (180, .iconst 5, 1, (0, 0, 0, .int 5)),
  (181, .iconst 0, 1, (0, 0, 0, .int 0)),
  (182, .invokevirtual 175, 3, (145, 2, 980, .ref 9)),
  (185, .aload_n 0, 1, (0, 0, 0, .null)),
  (186, .iconst 3, 1, (0, 0, 0, .int 3)),
  (187, .bipush 61, 2, (0, 0, 0, .int 61)),
  (189, .invokevirtual 239, 3, (146, 2, 996, .ref 9)),
  (192, .aload_n 0, 1, (0, 0, 0, .null)),
  (193, .bipush 17, 2, (0, 0, 0, .int 17)),
  (195, .iconst 1, 1, (0, 0, 0, .int 1)),
  (196, .invokevirtual 175, 3, (145, 2, 980, .ref 9)),
  (199, .goto 9, 3, (208, 0, 0, .null)),
  (202, .aload_n 0, 1, (0, 0, 0, .null)),
  (203, .iconst 5, 1, (0, 0, 0, .int 5)),
  (204, .iconst 0, 1, (0, 0, 0, .int 0)),
  (205, .invokevirtual 175, 3, (145, 2, 980, .ref 9)),
  (208, .return_, 1, (0, 0, 0, .null))]
abbrev md_156 : am_M := (⟨"BindingServerModel", "simple", "()V"⟩, prog_12_method_27_code, 3, none, tb_156)
def tb_157 : List am_I := [(0, .aload_n 0, 1, (0, 0, 0, .null)),
  (1, .getfield 23, 3, (9, 6, 795, .null)),
  (4, .aload_n 0, 1, (0, 0, 0, .null)),
  (5, .getfield 179, 3, (9, 12, 801, .null)),
  (8, .iaload, 1, (0, 0, 0, .null)),
  (9, .ifCond .eq 46, 3, (55, 0, 0, .null)),
  (12, .aload_n 0, 1, (0, 0, 0, .null)),
  (13, .getfield 23, 3, (9, 6, 795, .null)),
  (16, .aload_n 0, 1, (0, 0, 0, .null)),
  (17, .getfield 179, 3, (9, 12, 801, .null)),
  (20, .iaload, 1, (0, 0, 0, .null)),
  (21, .iconst 1, 1, (0, 0, 0, .int 1)),
  (22, .if_icmp .eq 33, 3, (55, 0, 0, .null)),
  (25, .aload_n 0, 1, (0, 0, 0, .null)),
  (26, .iconst 3, 1, (0, 0, 0, .int 3)),
  (27, .bipush 40, 2, (0, 0, 0, .int 40)),
  (29, .invokevirtual 226, 3, (147, 2, 1012, .ref 9)),
  (32, .ifCond .ne 23, 3, (55, 0, 0, .null)),
  (35, .aload_n 0, 1, (0, 0, 0, .null)),
  (36, .iconst 3, 1, (0, 0, 0, .int 3)),
  (37, .bipush 91, 2, (0, 0, 0, .int 91)),
  (39, .invokevirtual 226, 3, (147, 2, 1012, .ref 9)),
  (42, .ifCond .ne 13, 3, (55, 0, 0, .null)),
  (45, .aload_n 0, 1, (0, 0, 0, .null)),
  (46, .iconst 2, 1, (0, 0, 0, .int 2)),
  (47, .bipush 10, 2, (0, 0, 0, .int 10)),
  (49, .invokevirtual 226, 3, (147, 2, 1012, .ref 9)),
  (52, .ifCond .eq 7, 3, (59, 0, 0, .null)),
  (55, .iconst 1, 1, (0, 0, 0, .int 1)),
  (56, .goto 4, 3, (60, 0, 0, .null)),
  (59, .iconst 0, 1, (0, 0, 0, .int 0)),
  (60, .ireturn, 1, (0, 0, 0, .null))]
abbrev md_157 : am_M := (⟨"BindingServerModel", "begins", "()Z"⟩, prog_12_method_28_code, 1, some .boolean, tb_157)
def tb_158 : List am_I := [(0, .aload_n 0, 1, (0, 0, 0, .null)),
  (1, .getfield 26, 3, (9, 7, 796, .null)),
  (4, .aload_n 0, 1, (0, 0, 0, .null)),
  (5, .getfield 179, 3, (9, 12, 801, .null)),
  (8, .iaload, 1, (0, 0, 0, .null)),
  (9, .istore_n 1, 1, (0, 0, 0, .null)),
  (10, .aload_n 0, 1, (0, 0, 0, .null)),
  (11, .bipush 6, 2, (0, 0, 0, .int 6)),
  (13, .iload_n 1, 1, (0, 0, 0, .null)),
  (14, .invokevirtual 175, 3, (145, 2, 980, .ref 9)),
  (17, .aload_n 0, 1, (0, 0, 0, .null)),
  (18, .iconst 2, 1, (0, 0, 0, .int 2)),
  (19, .bipush 10, 2, (0, 0, 0, .int 10)),
  (21, .invokevirtual 226, 3, (147, 2, 1012, .ref 9)),
  (24, .ifCond .eq 52, 3, (76, 0, 0, .null)),
  (27, .aload_n 0, 1, (0, 0, 0, .null)),
  (28, .getfield 179, 3, (9, 12, 801, .null)),
  (31, .istore_n 2, 1, (0, 0, 0, .null)),
  (32, .aload_n 0, 1, (0, 0, 0, .null)),
  (33, .invokevirtual 246, 3, (152, 0, 1020, .ref 9)),
  (36, .ifCond .eq 37, 3, (73, 0, 0, .null)),
  (39, .aload_n 0, 1, (0, 0, 0, .null)),
  (40, .iconst 3, 1, (0, 0, 0, .int 3)),
  (41, .iload_n 2, 1, (0, 0, 0, .null)),
  (42, .invokevirtual 204, 3, (151, 2, 976, .ref 9)),
  (45, .istore_n 3, 1, (0, 0, 0, .null)),
  (46, .aload_n 0, 1, (0, 0, 0, .null)),
  (47, .bipush 15, 2, (0, 0, 0, .int 15)),
  (49, .iload_n 3, 1, (0, 0, 0, .null)),
  (50, .invokevirtual 175, 3, (145, 2, 980, .ref 9)),
  (53, .aload_n 0, 1, (0, 0, 0, .null)),
  (54, .iconst 5, 1, (0, 0, 0, .int 5)),
  (55, .iconst 0, 1, (0, 0, 0, .int 0)),
  (56, .invokevirtual 175, 3, (145, 2, 980, .ref 9)),
  (59, .aload_n 0, 1, (0, 0, 0, .null)),
  (60, .iconst 3, 1, (0, 0, 0, .int 3)),
  (61, .bipush 58, 2, (0, 0, 0, .int 58)),
  (63, .invokevirtual 239, 3, (146, 2, 996, .ref 9)),
  (66, .aload_n 0, 1, (0, 0, 0, .null)),
  (67, .bipush 11, 2, (0, 0, 0, .int 11)),
  (69, .iconst 0, 1, (0, 0, 0, .int 0)),
  (70, .invokevirtual 175, 3, (145, 2, 980, .ref 9)),
  (73, .goto 17, 3, (90, 0, 0, .null)),
  (76, .aload_n 0, 1, (0, 0, 0, .null)),
  (77, .bipush 7, 2, (0, 0, 0, .int 7)),
  (79, .iload_n 1, 1, (0, 0, 0, .null)),
  (80, .invokevirtual 175, 3, (145, 2, 980, .ref 9)),
  (83, .aload_n 0, 1, (0, 0, 0, .null)),
  (84, .bipush 8, 2, (0, 0, 0, .int 8)),
  (86, .iconst 0, 1, (0, 0, 0, .int 0)),
  (87, .invokevirtual 175, 3, (145, 2, 980, .ref 9)),
  (90, .return_, 1, (0, 0, 0, .null))]
abbrev md_158 : am_M := (⟨"BindingServerModel", "expr", "()V"⟩, prog_12_method_29_code, 4, none, tb_158)
def tb_159 : List am_I := [(0, .aload_n 0, 1, (0, 0, 0, .null)),
  (1, .getfield 26, 3, (9, 7, 796, .null)),
  (4, .aload_n 0, 1, (0, 0, 0, .null)),
  (5, .getfield 179, 3, (9, 12, 801, .null)),
  (8, .iaload, 1, (0, 0, 0, .null)),
  (9, .istore_n 1, 1, (0, 0, 0, .null)),
  (10, .aload_n 0, 1, (0, 0, 0, .null)),
  (11, .getfield 23, 3, (9, 6, 795, .null)),
  (14, .aload_n 0, 1, (0, 0, 0, .null)),
  (15, .getfield 179, 3, (9, 12, 801, .null)),
  (18, .iaload, 1, (0, 0, 0, .null)),
  (19, .ifCond .eq 16, 3, (35, 0, 0, .null)),
  (22, .aload_n 0, 1, (0, 0, 0, .null)),
  (23, .getfield 23, 3, (9, 6, 795, .null)),
  (26, .aload_n 0, 1, (0, 0, 0, .null)),
  (27, .getfield 179, 3, (9, 12, 801, .null)),
  (30, .iaload, 1, (0, 0, 0, .null)),
  (31, .iconst 1, 1, (0, 0, 0, .int 1)),
  (32, .if_icmp .ne 17, 3, (49, 0, 0, .null)),
  (35, .aload_n 0, 1, (0, 0, 0, .null)),
  (36, .invokevirtual 201, 3, (149, 0, 992, .ref 9)),
  (39, .aload_n 0, 1, (0, 0, 0, .null)),
  (40, .bipush 9, 2, (0, 0, 0, .int 9)),
  (42, .iload_n 1, 1, (0, 0, 0, .null)),
  (43, .invokevirtual 175, 3, (145, 2, 980, .ref 9)),
  (46, .goto 158, 3, (204, 0, 0, .null)),
  (49, .aload_n 0, 1, (0, 0, 0, .null)),
  (50, .iconst 3, 1, (0, 0, 0, .int 3)),
  (51, .bipush 40, 2, (0, 0, 0, .int 40)),
  (53, .invokevirtual 226, 3, (147, 2, 1012, .ref 9)),
  (56, .ifCond .eq 89, 3, (145, 0, 0, .null)),
  (59, .aload_n 0, 1, (0, 0, 0, .null)),
  (60, .invokevirtual 246, 3, (152, 0, 1020, .ref 9)),
  (63, .ifCond .eq 141, 3, (204, 0, 0, .null)),
  (66, .aload_n 0, 1, (0, 0, 0, .null)),
  (67, .bipush 9, 2, (0, 0, 0, .int 9)),
  (69, .iload_n 1, 1, (0, 0, 0, .null)),
  (70, .invokevirtual 175, 3, (145, 2, 980, .ref 9)),
  (73, .aload_n 0, 1, (0, 0, 0, .null)),
  (74, .bipush 21, 2, (0, 0, 0, .int 21)),
  (76, .bipush 41, 2, (0, 0, 0, .int 41)),
  (78, .invokevirtual 175, 3, (145, 2, 980, .ref 9)),
  (81, .aload_n 0, 1, (0, 0, 0, .null)),
  (82, .iconst 5, 1, (0, 0, 0, .int 5)),
  (83, .iconst 0, 1, (0, 0, 0, .int 0)),
  (84, .invokevirtual 175, 3, (145, 2, 980, .ref 9)),
  (87, .aload_n 0, 1, (0, 0, 0, .null)),
  (88, .getfield 23, 3, (9, 6, 795, .null)),
  (91, .aload_n 0, 1, (0, 0, 0, .null)),
  (92, .getfield 179, 3, (9, 12, 801, .null)),
  (95, .iaload, 1, (0, 0, 0, .null)),
  (96, .ifCond .ne 108, 3, (204, 0, 0, .null)),
  (99, .aload_n 0, 1, (0, 0, 0, .null)),
  (100, .getfield 23, 3, (9, 6, 795, .null)),
  (103, .aload_n 0, 1, (0, 0, 0, .null)),
  (104, .getfield 179, 3, (9, 12, 801, .null)),
  (107, .iconst 1, 1, (0, 0, 0, .int 1)),
  (108, .iadd, 1, (0, 0, 0, .null)),
  (109, .iaload, 1, (0, 0, 0, .null)),
  (110, .iconst 3, 1, (0, 0, 0, .int 3)),
  (111, .if_icmp .ne 93, 3, (204, 0, 0, .null)),
  (114, .aload_n 0, 1, (0, 0, 0, .null)),
  (115, .getfield 32, 3, (9, 9, 798, .null)),
  (118, .aload_n 0, 1, (0, 0, 0, .null)),
  (119, .getfield 179, 3, (9, 12, 801, .null)),
  (122, .iconst 1, 1, (0, 0, 0, .int 1)),
  (123, .iadd, 1, (0, 0, 0, .null)),
  (124, .iaload, 1, (0, 0, 0, .null)),
  (125, .iconst 1, 1, (0, 0, 0, .int 1)),
  (126, .if_icmp .ne 78, 3, (204, 0, 0, .null)),
  (129, .aload_n 0, 1, (0, 0, 0, .null)),
  (130, .iconst 3, 1, (0, 0, 0, .int 3)),
  (131, .iconst 1, 1, (0, 0, 0, .int 1)),
  (132, .invokevirtual 239, 3, (146, 2, 996, .ref 9)),
  (135, .aload_n 0, 1, (0, 0, 0, .null)),
  (136, .bipush 17, 2, (0, 0, 0, .int 17)),
  (138, .iconst 3, 1, (0, 0, 0, .int 3)),
  (139, .invokevirtual 175, 3, (145, 2, 980, .ref 9)),
  (142, .goto 62, 3, (204, 0, 0, .null)),
  (145, .aload_n 0, 1, (0, 0, 0, .null)),
  (146, .iconst 3, 1, (0, 0, 0, .int 3)),
  (147, .bipush 91, 2, (0, 0, 0, .int 91)),
  (149, .invokevirtual 226, 3, (147, 2, 1012, .ref 9)),
  (152, .ifCond .eq 46, 3, (198, 0, 0, .null)),
  (155, .aload_n 0, 1, (0, 0, 0, .null)),
  (156, .getfield 179, 3, (9, 12, 801, .null)),
  (159, .istore_n 2, 1, (0, 0, 0, .null)),
  (160, .aload_n 0, 1, (0, 0, 0, .null)),
  (161, .invokevirtual 246, 3, (152, 0, 1020, .ref 9)),
  (164, .ifCond .eq 31, 3, (195, 0, 0, .null)),
  (167, .aload_n 0, 1, (0, 0, 0, .null)),
  (168, .bipush 9, 2, (0, 0, 0, .int 9)),
  (170, .iload_n 1, 1, (0, 0, 0, .null)),
  (171, .invokevirtual 175, 3, (145, 2, 980, .ref 9)),
  (174, .aload_n 0, 1, (0, 0, 0, .null)),
  (175, .bipush 21, 2, (0, 0, 0, .int 21)),
  (177, .bipush 93, 2, (0, 0, 0, .int 93)),
  (179, .invokevirtual 175, 3, (145, 2, 980, .ref 9)),
  (182, .aload_n 0, 1, (0, 0, 0, .null)),
  (183, .bipush 20, 2, (0, 0, 0, .int 20)),
  (185, .iload_n 2, 1, (0, 0, 0, .null)),
  (186, .invokevirtual 175, 3, (145, 2, 980, .ref 9)),
  (189, .aload_n 0, 1, (0, 0, 0, .null)),
  (190, .iconst 5, 1, (0, 0, 0, .int 5)),
  (191, .iconst 0, 1, (0, 0, 0, .int 0)),
  (192, .invokevirtual 175, 3, (145, 2, 980, .ref 9)),
  (195, .goto 9, 3, (204, 0, 0, .null)),
  (198, .aload_n 0, 1, (0, 0, 0, .null)),
  (199, .bipush 20, 2, (0, 0, 0, .int 20)),
  (201, .invokevirtual 197, 3, (148, 1, 1024, .ref 9)),
  (204, .return_, 1, (0, 0, 0, .null))]
abbrev md_159 : am_M := (⟨"BindingServerModel", "item", "()V"⟩, prog_12_method_30_code, 3, none, tb_159)
def tb_160 : List am_I := [(0, .aload_n 0, 1, (0, 0, 0, .null)),
  (1, .iload_n 1, 1, (0, 0, 0, .null)),
  (2, .invokevirtual 214, 3, (150, 1, 1000, .ref 9)),
  (5, .aload_n 0, 1, (0, 0, 0, .null)),
  (6, .iconst 3, 1, (0, 0, 0, .int 3)),
  (7, .bipush 40, 2, (0, 0, 0, .int 40)),
  (9, .invokevirtual 226, 3, (147, 2, 1012, .ref 9)),
  (12, .ifCond .eq 48, 3, (60, 0, 0, .null)),
  (15, .aload_n 0, 1, (0, 0, 0, .null)),
  (16, .invokevirtual 246, 3, (152, 0, 1020, .ref 9)),
  (19, .ifCond .eq 41, 3, (60, 0, 0, .null)),
  (22, .aload_n 0, 1, (0, 0, 0, .null)),
  (23, .bipush 9, 2, (0, 0, 0, .int 9)),
  (25, .iload_n 1, 1, (0, 0, 0, .null)),
  (26, .invokevirtual 175, 3, (145, 2, 980, .ref 9)),
  (29, .aload_n 0, 1, (0, 0, 0, .null)),
  (30, .bipush 21, 2, (0, 0, 0, .int 21)),
  (32, .bipush 41, 2, (0, 0, 0, .int 41)),
  (34, .invokevirtual 175, 3, (145, 2, 980, .ref 9)),
  (37, .aload_n 0, 1, (0, 0, 0, .null)),
  (38, .iconst 3, 1, (0, 0, 0, .int 3)),
  (39, .bipush 41, 2, (0, 0, 0, .int 41)),
  (41, .invokevirtual 226, 3, (147, 2, 1012, .ref 9)),
  (44, .ifCond .ne 16, 3, (60, 0, 0, .null)),
  (47, .aload_n 0, 1, (0, 0, 0, .null)),
  (48, .bipush 10, 2, (0, 0, 0, .int 10)),
  (50, .iconst 0, 1, (0, 0, 0, .int 0)),
  (51, .invokevirtual 175, 3, (145, 2, 980, .ref 9)),
  (54, .aload_n 0, 1, (0, 0, 0, .null)),
  (55, .iconst 5, 1, (0, 0, 0, .int 5)),
  (56, .iconst 0, 1, (0, 0, 0, .int 0)),
  (57, .invokevirtual 175, 3, (145, 2, 980, .ref 9)),
  (60, .return_, 1, (0, 0, 0, .null))]
abbrev md_160 : am_M := (⟨"BindingServerModel", "suffix", "(I)V"⟩, prog_12_method_31_code, 2, none, tb_160)
def tb_161 : List am_I := [(0, .iload_n 1, 1, (0, 0, 0, .null)),
  (1, .bipush 10, 2, (0, 0, 0, .int 10)),
  (3, .if_icmp .ne 33, 3, (36, 0, 0, .null)),
  (6, .aload_n 0, 1, (0, 0, 0, .null)),
  (7, .iconst 3, 1, (0, 0, 0, .int 3)),
  (8, .bipush 44, 2, (0, 0, 0, .int 44)),
  (10, .invokevirtual 226, 3, (147, 2, 1012, .ref 9)),
  (13, .ifCond .eq 201, 3, (214, 0, 0, .null)),
  (16, .aload_n 0, 1, (0, 0, 0, .null)),
  (17, .invokevirtual 201, 3, (149, 0, 992, .ref 9)),
  (20, .aload_n 0, 1, (0, 0, 0, .null)),
  (21, .bipush 10, 2, (0, 0, 0, .int 10)),
  (23, .iconst 0, 1, (0, 0, 0, .int 0)),
  (24, .invokevirtual 175, 3, (145, 2, 980, .ref 9)),
  (27, .aload_n 0, 1, (0, 0, 0, .null)),
  (28, .iconst 5, 1, (0, 0, 0, .int 5)),
  (29, .iconst 0, 1, (0, 0, 0, .int 0)),
  (30, .invokevirtual 175, 3, (145, 2, 980, .ref 9)),
  (33, .goto 181, 3, (214, 0, 0, .null)),
  (36, .iload_n 1, 1, (0, 0, 0, .null)),
  (37, .bipush 11, 2, (0, 0, 0, .int 11)),
  (39, .if_icmp .ne 32, 3, (71, 0, 0, .null)),
  (42, .aload_n 0, 1, (0, 0, 0, .null)),
  (43, .getfield 23, 3, (9, 6, 795, .null)),
  (46, .aload_n 0, 1, (0, 0, 0, .null)),
  (47, .getfield 179, 3, (9, 12, 801, .null)),
  (50, .iaload, 1, (0, 0, 0, .null)),
  (51, .ifCond .ne 163, 3, (214, 0, 0, .null)),
  (54, .aload_n 0, 1, (0, 0, 0, .null)),
  (55, .bipush 18, 2, (0, 0, 0, .int 18)),
  (57, .iconst 2, 1, (0, 0, 0, .int 2)),
  (58, .invokevirtual 175, 3, (145, 2, 980, .ref 9)),
  (61, .aload_n 0, 1, (0, 0, 0, .null)),
  (62, .bipush 17, 2, (0, 0, 0, .int 17)),
  (64, .iconst 2, 1, (0, 0, 0, .int 2)),
  (65, .invokevirtual 175, 3, (145, 2, 980, .ref 9)),
  (68, .goto 146, 3, (214, 0, 0, .null)),
  (71, .iload_n 1, 1, (0, 0, 0, .null)),
  (72, .bipush 12, 2, (0, 0, 0, .int 12)),
  (74, .if_icmp .ne 46, 3, (120, 0, 0, .null)),
  (77, .aload_n 0, 1, (0, 0, 0, .null)),
  (78, .iconst 3, 1, (0, 0, 0, .int 3)),
  (79, .bipush 58, 2, (0, 0, 0, .int 58)),
  (81, .invokevirtual 226, 3, (147, 2, 1012, .ref 9)),
  (84, .ifCond .ne 12, 3, (96, 0, 0, .null)),
  (87, .aload_n 0, 1, (0, 0, 0, .null)),
  (88, .bipush 20, 2, (0, 0, 0, .int 20)),
  (90, .invokevirtual 197, 3, (148, 1, 1024, .ref 9)),
  (93, .goto 121, 3, (214, 0, 0, .null)),
  (96, .aload_n 0, 1, (0, 0, 0, .null)),
  (97, .invokevirtual 246, 3, (152, 0, 1020, .ref 9)),
  (100, .ifCond .eq 114, 3, (214, 0, 0, .null)),
  (103, .aload_n 0, 1, (0, 0, 0, .null)),
  (104, .bipush 15, 2, (0, 0, 0, .int 15)),
  (106, .iload_n 2, 1, (0, 0, 0, .null)),
  (107, .invokevirtual 175, 3, (145, 2, 980, .ref 9)),
  (110, .aload_n 0, 1, (0, 0, 0, .null)),
  (111, .bipush 13, 2, (0, 0, 0, .int 13)),
  (113, .iconst 0, 1, (0, 0, 0, .int 0)),
  (114, .invokevirtual 175, 3, (145, 2, 980, .ref 9)),
  (117, .goto 97, 3, (214, 0, 0, .null)),
  (120, .iload_n 1, 1, (0, 0, 0, .null)),
  (121, .bipush 13, 2, (0, 0, 0, .int 13)),
  (123, .if_icmp .ne 57, 3, (180, 0, 0, .null)),
  (126, .aload_n 0, 1, (0, 0, 0, .null)),
  (127, .getfield 23, 3, (9, 6, 795, .null)),
  (130, .aload_n 0, 1, (0, 0, 0, .null)),
  (131, .getfield 179, 3, (9, 12, 801, .null)),
  (134, .iaload, 1, (0, 0, 0, .null)),
  (135, .iconst 4, 1, (0, 0, 0, .int 4)),
  (136, .if_icmp .ne 29, 3, (165, 0, 0, .null)),
  (139, .aload_n 0, 1, (0, 0, 0, .null)),
  (140, .invokevirtual 201, 3, (149, 0, 992, .ref 9)),
  (143, .aload_n 0, 1, (0, 0, 0, .null)),
  (144, .bipush 14, 2, (0, 0, 0, .int 14)),
  (146, .iconst 0, 1, (0, 0, 0, .int 0)),
  (147, .invokevirtual 175, 3, (145, 2, 980, .ref 9)),
  (150, .aload_n 0, 1, (0, 0, 0, .null)),
  (151, .iconst 2, 1, (0, 0, 0, .int 2)),
  (152, .iconst 0, 1, (0, 0, 0, .int 0)),
  (153, .invokevirtual 175, 3, (145, 2, 980, .ref 9)),
  (156, .aload_n 0, 1, (0, 0, 0, .null)),
  (157, .iconst 5, 1, (0, 0, 0, .int 5)),
  (158, .iconst 0, 1, (0, 0, 0, .int 0)),
  (159, .invokevirtual 239, 3, (146, 2, 996, .ref 9)),
  (162, .goto 52, 3, (214, 0, 0, .null)),
  (165, .aload_n 0, 1, (0, 0, 0, .null)),
  (166, .iconst 4, 1, (0, 0, 0, .int 4)),
  (167, .iconst 0, 1, (0, 0, 0, .int 0)),
  (168, .invokevirtual 239, 3, (146, 2, 996, .ref 9)),
  (171, .aload_n 0, 1, (0, 0, 0, .null)),
  (172, .iconst 4, 1, (0, 0, 0, .int 4)),
  (173, .iconst 0, 1, (0, 0, 0, .int 0)),
  (174, .invokevirtual 175, 3, (145, 2, 980, .ref 9)),
  (177, .goto 37, 3, (214, 0, 0, .null)),
  (180, .aload_n 0, 1, (0, 0, 0, .null)),
  (181, .getfield 23, 3, (9, 6, 795, .null)),
  (184, .aload_n 0, 1, (0, 0, 0, .null)),
  (185, .getfield 179, 3, (9, 12, 801, .null)),
  (188, .iaload, 1, (0, 0, 0, .null)),
  (189, .bipush 6, 2, (0, 0, 0, .int 6)),
  (191, .if_icmp .ne 10, 3, (201, 0, 0, .null)),
  (194, .aload_n 0, 1, (0, 0, 0, .null)),
  (195, .invokevirtual 201, 3, (149, 0, 992, .ref 9)),
  (198, .goto 16, 3, (214, 0, 0, .null)),
  (201, .aload_n 0, 1, (0, 0, 0, .null)),
  (202, .bipush 14, 2, (0, 0, 0, .int 14)),
  (204, .iconst 0, 1, (0, 0, 0, .int 0)),
  (205, .invokevirtual 175, 3, (145, 2, 980, .ref 9)),
  (208, .aload_n 0, 1, (0, 0, 0, .null)),
  (209, .iconst 2, 1, (0, 0, 0, .int 2)),
  (210, .iconst 0, 1, (0, 0, 0, .int 0)),
  (211, .invokevirtual 175, 3, (145, 2, 980, .ref 9)),
  (214, .return_, 1, (0, 0, 0, .null))]
abbrev md_161 : am_M := (⟨"BindingServerModel", "lists", "(II)V"⟩, prog_12_method_32_code, 3, none, tb_161)
def tb_162 : List am_I := [(0, .iload_n 1, 1, (0, 0, 0, .null)),
  (1, .bipush 18, 2, (0, 0, 0, .int 18)),
  (3, .if_icmp .ne 34, 3, (37, 0, 0, .null)),
  (6, .aload_n 0, 1, (0, 0, 0, .null)),
  (7, .iconst 3, 1, (0, 0, 0, .int 3)),
  (8, .bipush 44, 2, (0, 0, 0, .int 44)),
  (10, .invokevirtual 226, 3, (147, 2, 1012, .ref 9)),
  (13, .ifCond .eq 239, 3, (252, 0, 0, .null)),
  (16, .aload_n 0, 1, (0, 0, 0, .null)),
  (17, .invokevirtual 201, 3, (149, 0, 992, .ref 9)),
  (20, .aload_n 0, 1, (0, 0, 0, .null)),
  (21, .bipush 18, 2, (0, 0, 0, .int 18)),
  (23, .iload_n 2, 1, (0, 0, 0, .null)),
  (24, .invokevirtual 175, 3, (145, 2, 980, .ref 9)),
  (27, .aload_n 0, 1, (0, 0, 0, .null)),
  (28, .bipush 17, 2, (0, 0, 0, .int 17)),
  (30, .iload_n 2, 1, (0, 0, 0, .null)),
  (31, .invokevirtual 175, 3, (145, 2, 980, .ref 9)),
  (34, .goto 218, 3, (252, 0, 0, .null)),
  (37, .iload_n 1, 1, (0, 0, 0, .null)),
  (38, .bipush 19, 2, (0, 0, 0, .int 19)),
  (40, .if_icmp .ne 32, 3, (72, 0, 0, .null)),
  (43, .iload_n 2, 1, (0, 0, 0, .null)),
  (44, .bipush 7, 2, (0, 0, 0, .int 7)),
  (46, .if_icmp .ne 206, 3, (252, 0, 0, .null)),
  (49, .aload_n 0, 1, (0, 0, 0, .null)),
  (50, .iconst 2, 1, (0, 0, 0, .int 2)),
  (51, .iconst 4, 1, (0, 0, 0, .int 4)),
  (52, .invokevirtual 226, 3, (147, 2, 1012, .ref 9)),
  (55, .ifCond .eq 197, 3, (252, 0, 0, .null)),
  (58, .aload_n 0, 1, (0, 0, 0, .null)),
  (59, .invokevirtual 201, 3, (149, 0, 992, .ref 9)),
  (62, .aload_n 0, 1, (0, 0, 0, .null)),
  (63, .bipush 12, 2, (0, 0, 0, .int 12)),
  (65, .iconst 0, 1, (0, 0, 0, .int 0)),
  (66, .invokevirtual 175, 3, (145, 2, 980, .ref 9)),
  (69, .goto 183, 3, (252, 0, 0, .null)),
  (72, .iload_n 1, 1, (0, 0, 0, .null)),
  (73, .bipush 20, 2, (0, 0, 0, .int 20)),
  (75, .if_icmp .ne 57, 3, (132, 0, 0, .null)),
  (78, .aload_n 0, 1, (0, 0, 0, .null)),
  (79, .iconst 2, 1, (0, 0, 0, .int 2)),
  (80, .iconst 5, 1, (0, 0, 0, .int 5)),
  (81, .invokevirtual 226, 3, (147, 2, 1012, .ref 9)),
  (84, .ifCond .eq 168, 3, (252, 0, 0, .null)),
  (87, .aload_n 0, 1, (0, 0, 0, .null)),
  (88, .iconst 4, 1, (0, 0, 0, .int 4)),
  (89, .iload_n 2, 1, (0, 0, 0, .null)),
  (90, .invokevirtual 204, 3, (151, 2, 976, .ref 9)),
  (93, .istore_n 3, 1, (0, 0, 0, .null)),
  (94, .aload_n 0, 1, (0, 0, 0, .null)),
  (95, .invokevirtual 201, 3, (149, 0, 992, .ref 9)),
  (98, .aload_n 0, 1, (0, 0, 0, .null)),
  (99, .getfield 71, 3, (9, 30, 819, .null)),
  (102, .iload_n 3, 1, (0, 0, 0, .null)),
  (103, .aload_n 0, 1, (0, 0, 0, .null)),
  (104, .getfield 179, 3, (9, 12, 801, .null)),
  (107, .iastore, 1, (0, 0, 0, .null)),
  (108, .aload_n 0, 1, (0, 0, 0, .null)),
  (109, .bipush 22, 2, (0, 0, 0, .int 22)),
  (111, .iload_n 3, 1, (0, 0, 0, .null)),
  (112, .invokevirtual 175, 3, (145, 2, 980, .ref 9)),
  (115, .aload_n 0, 1, (0, 0, 0, .null)),
  (116, .iconst 2, 1, (0, 0, 0, .int 2)),
  (117, .bipush 9, 2, (0, 0, 0, .int 9)),
  (119, .invokevirtual 239, 3, (146, 2, 996, .ref 9)),
  (122, .aload_n 0, 1, (0, 0, 0, .null)),
  (123, .bipush 17, 2, (0, 0, 0, .int 17)),
  (125, .iconst 1, 1, (0, 0, 0, .int 1)),
  (126, .invokevirtual 175, 3, (145, 2, 980, .ref 9)),
  (129, .goto 123, 3, (252, 0, 0, .null)),
  (132, .iload_n 1, 1, (0, 0, 0, .null)),
  (133, .bipush 22, 2, (0, 0, 0, .int 22)),
  (135, .if_icmp .ne 29, 3, (164, 0, 0, .null)),
  (138, .aload_n 0, 1, (0, 0, 0, .null)),
  (139, .getfield 65, 3, (9, 28, 817, .null)),
  (142, .iload_n 2, 1, (0, 0, 0, .null)),
  (143, .aload_n 0, 1, (0, 0, 0, .null)),
  (144, .getfield 179, 3, (9, 12, 801, .null)),
  (147, .iastore, 1, (0, 0, 0, .null)),
  (148, .aload_n 0, 1, (0, 0, 0, .null)),
  (149, .bipush 23, 2, (0, 0, 0, .int 23)),
  (151, .iload_n 2, 1, (0, 0, 0, .null)),
  (152, .invokevirtual 175, 3, (145, 2, 980, .ref 9)),
  (155, .aload_n 0, 1, (0, 0, 0, .null)),
  (156, .iconst 5, 1, (0, 0, 0, .int 5)),
  (157, .iconst 0, 1, (0, 0, 0, .int 0)),
  (158, .invokevirtual 175, 3, (145, 2, 980, .ref 9)),
  (161, .goto 91, 3, (252, 0, 0, .null)),
  (164, .iload_n 1, 1, (0, 0, 0, .null)),
  (165, .bipush 21, 2, (0, 0, 0, .int 21)),
  (167, .if_icmp .ne 38, 3, (205, 0, 0, .null)),
  (170, .aload_n 0, 1, (0, 0, 0, .null)),
  (171, .iconst 3, 1, (0, 0, 0, .int 3)),
  (172, .iload_n 2, 1, (0, 0, 0, .null)),
  (173, .invokevirtual 226, 3, (147, 2, 1012, .ref 9)),
  (176, .ifCond .eq 20, 3, (196, 0, 0, .null)),
  (179, .aload_n 0, 1, (0, 0, 0, .null)),
  (180, .invokevirtual 201, 3, (149, 0, 992, .ref 9)),
  (183, .aload_n 0, 1, (0, 0, 0, .null)),
  (184, .dup, 1, (0, 0, 0, .null)),
  (185, .getfield 194, 3, (9, 13, 802, .null)),
  (188, .iconst 1, 1, (0, 0, 0, .int 1)),
  (189, .isub, 1, (0, 0, 0, .null)),
  (190, .putfield 194, 3, (9, 13, 802, .null)),
  (193, .goto 59, 3, (252, 0, 0, .null)),
  (196, .aload_n 0, 1, (0, 0, 0, .null)),
  (197, .bipush 20, 2, (0, 0, 0, .int 20)),
  (199, .invokevirtual 197, 3, (148, 1, 1024, .ref 9)),
  (202, .goto 50, 3, (252, 0, 0, .null)),
  (205, .aload_n 0, 1, (0, 0, 0, .null)),
  (206, .iload_n 1, 1, (0, 0, 0, .null)),
  (207, .bipush 15, 2, (0, 0, 0, .int 15)),
  (209, .if_icmp .ne 12, 3, (221, 0, 0, .null)),
  (212, .aload_n 0, 1, (0, 0, 0, .null)),
  (213, .getfield 194, 3, (9, 13, 802, .null)),
  (216, .iconst 1, 1, (0, 0, 0, .int 1)),
  (217, .isub, 1, (0, 0, 0, .null)),
  (218, .goto 7, 3, (225, 0, 0, .null)),
  (221, .aload_n 0, 1, (0, 0, 0, .null)),
  (222, .getfield 194, 3, (9, 13, 802, .null)),
  (225, .putfield 194, 3, (9, 13, 802, .null)),
  (228, .iload_n 2, 1, (0, 0, 0, .null)),
  (229, .ifCond .le 23, 3, (252, 0, 0, .null)),
  (232, .aload_n 0, 1, (0, 0, 0, .null)),
  (233, .getfield 62, 3, (9, 27, 816, .null)),
  (236, .iload_n 2, 1, (0, 0, 0, .null)),
  (237, .aload_n 0, 1, (0, 0, 0, .null)),
  (238, .getfield 179, 3, (9, 12, 801, .null)),
  (241, .iastore, 1, (0, 0, 0, .null)),
  (242, .aload_n 0, 1, (0, 0, 0, .null)),
  (243, .getfield 68, 3, (9, 29, 818, .null)),
  (246, .iload_n 2, 1, (0, 0, 0, .null)),
  (247, .aload_n 0, 1, (0, 0, 0, .null)),
  (248, .getfield 179, 3, (9, 12, 801, .null)),
  (251, .iastore, 1, (0, 0, 0, .null)),
  (252, .return_, 1, (0, 0, 0, .null))]
abbrev md_162 : am_M := (⟨"BindingServerModel", "rest", "(II)V"⟩, prog_12_method_33_code, 4, none, tb_162)
def tb_163 : List am_I := [(0, .iconst 0, 1, (0, 0, 0, .int 0)),
  (1, .istore_n 1, 1, (0, 0, 0, .null)),
  (2, .iload_n 1, 1, (0, 0, 0, .null)),
  (3, .aload_n 0, 1, (0, 0, 0, .null)),
  (4, .getfield 191, 3, (9, 23, 812, .null)),
  (7, .if_icmp .ge 49, 3, (56, 0, 0, .null)),
  (10, .iconst 1, 1, (0, 0, 0, .int 1)),
  (11, .istore_n 2, 1, (0, 0, 0, .null)),
  (12, .iload_n 2, 1, (0, 0, 0, .null)),
  (13, .iconst 1, 1, (0, 0, 0, .int 1)),
  (14, .iadd, 1, (0, 0, 0, .null)),
  (15, .aload_n 0, 1, (0, 0, 0, .null)),
  (16, .getfield 191, 3, (9, 23, 812, .null)),
  (19, .if_icmp .ge 31, 3, (50, 0, 0, .null)),
  (22, .aload_n 0, 1, (0, 0, 0, .null)),
  (23, .getfield 56, 3, (9, 25, 814, .null)),
  (26, .iload_n 2, 1, (0, 0, 0, .null)),
  (27, .iaload, 1, (0, 0, 0, .null)),
  (28, .aload_n 0, 1, (0, 0, 0, .null)),
  (29, .getfield 56, 3, (9, 25, 814, .null)),
  (32, .iload_n 2, 1, (0, 0, 0, .null)),
  (33, .iconst 1, 1, (0, 0, 0, .int 1)),
  (34, .iadd, 1, (0, 0, 0, .null)),
  (35, .iaload, 1, (0, 0, 0, .null)),
  (36, .if_icmp .le 8, 3, (44, 0, 0, .null)),
  (39, .aload_n 0, 1, (0, 0, 0, .null)),
  (40, .iload_n 2, 1, (0, 0, 0, .null)),
  (41, .invokevirtual 249, 3, (164, 1, 1048, .ref 9)),
  (44, .iinc 2 1, 3, (0, 0, 0, .null)),
  (47, .goto (-35), 3, (12, 0, 0, .null)),
  (50, .iinc 1 1, 3, (0, 0, 0, .null)),
  (53, .goto (-51), 3, (2, 0, 0, .null)),
  (56, .return_, 1, (0, 0, 0, .null))]
abbrev md_163 : am_M := (⟨"BindingServerModel", "sortScopes", "()V"⟩, prog_12_method_34_code, 3, none, tb_163)
def tb_164 : List am_I := [(0, .aload_n 0, 1, (0, 0, 0, .null)),
  (1, .getfield 53, 3, (9, 24, 813, .null)),
  (4, .iload_n 1, 1, (0, 0, 0, .null)),
  (5, .iaload, 1, (0, 0, 0, .null)),
  (6, .istore_n 2, 1, (0, 0, 0, .null)),
  (7, .aload_n 0, 1, (0, 0, 0, .null)),
  (8, .getfield 56, 3, (9, 25, 814, .null)),
  (11, .iload_n 1, 1, (0, 0, 0, .null)),
  (12, .iaload, 1, (0, 0, 0, .null)),
  (13, .istore_n 3, 1, (0, 0, 0, .null)),
  (14, .aload_n 0, 1, (0, 0, 0, .null)),
  (15, .getfield 59, 3, (9, 26, 815, .null)),
  (18, .iload_n 1, 1, (0, 0, 0, .null)),
  (19, .iaload, 1, (0, 0, 0, .null)),
  (20, .istore 4, 2, (0, 0, 0, .null)),
  (22, .aload_n 0, 1, (0, 0, 0, .null)),
  (23, .getfield 62, 3, (9, 27, 816, .null)),
  (26, .iload_n 1, 1, (0, 0, 0, .null)),
  (27, .iaload, 1, (0, 0, 0, .null)),
  (28, .istore 5, 2, (0, 0, 0, .null)),
  (30, .aload_n 0, 1, (0, 0, 0, .null)),
  (31, .getfield 65, 3, (9, 28, 817, .null)),
  (34, .iload_n 1, 1, (0, 0, 0, .null)),
  (35, .iaload, 1, (0, 0, 0, .null)),
  (36, .istore 6, 2, (0, 0, 0, .null)),
  (38, .aload_n 0, 1, (0, 0, 0, .null)),
  (39, .getfield 68, 3, (9, 29, 818, .null)),
  (42, .iload_n 1, 1, (0, 0, 0, .null)),
  (43, .iaload, 1, (0, 0, 0, .null)),
  (44, .istore 7, 2, (0, 0, 0, .null)),
  (46, .aload_n 0, 1, (0, 0, 0, .null)),
  (47, .getfield 71, 3, (9, 30, 819, .null)),
  (50, .iload_n 1, 1, (0, 0, 0, .null)),
  (51, .iaload, 1, (0, 0, 0, .null)),
  (52, .istore 8, 2, (0, 0, 0, .null)),
  (54, .aload_n 0, 1, (0, 0, 0, .null)),
  (55, .getfield 53, 3, (9, 24, 813, .null)),
  (58, .iload_n 1, 1, (0, 0, 0, .null)),
  (59, .aload_n 0, 1, (0, 0, 0, .null)),
  (60, .getfield 53, 3, (9, 24, 813, .null)),
  (63, .iload_n 1, 1, (0, 0, 0, .null)),
  (64, .iconst 1, 1, (0, 0, 0, .int 1)),
  (65, .iadd, 1, (0, 0, 0, .null)),
  (66, .iaload, 1, (0, 0, 0, .null)),
  (67, .iastore, 1, (0, 0, 0, .null)),
  (68, .aload_n 0, 1, (0, 0, 0, .null)),
  (69, .getfield 56, 3, (9, 25, 814, .null)),
  (72, .iload_n 1, 1, (0, 0, 0, .null)),
  (73, .aload_n 0, 1, (0, 0, 0, .null)),
  (74, .getfield 56, 3, (9, 25, 814, .null)),
  (77, .iload_n 1, 1, (0, 0, 0, .null)),
  (78, .iconst 1, 1, (0, 0, 0, .int 1)),
  (79, .iadd, 1, (0, 0, 0, .null)),
  (80, .iaload, 1, (0, 0, 0, .null)),
  (81, .iastore, 1, (0, 0, 0, .null)),
  (82, .aload_n 0, 1, (0, 0, 0, .null)),
  (83, .getfield 59, 3, (9, 26, 815, .null)),
  (86, .iload_n 1, 1, (0, 0, 0, .null)),
  (87, .aload_n 0, 1, (0, 0, 0, .null)),
  (88, .getfield 59, 3, (9, 26, 815, .null)),
  (91, .iload_n 1, 1, (0, 0, 0, .null)),
  (92, .iconst 1, 1, (0, 0, 0, .int 1)),
  (93, .iadd, 1, (0, 0, 0, .null)),
  (94, .iaload, 1, (0, 0, 0, .null)),
  (95, .iastore, 1, (0, 0, 0, .null)),
  (96, .aload_n 0, 1, (0, 0, 0, .null)),
  (97, .getfield 62, 3, (9, 27, 816, .null)),
  (100, .iload_n 1, 1, (0, 0, 0, .null)),
  (101, .aload_n 0, 1, (0, 0, 0, .null)),
  (102, .getfield 62, 3, (9, 27, 816, .null)),
  (105, .iload_n 1, 1, (0, 0, 0, .null)),
  (106, .iconst 1, 1, (0, 0, 0, .int 1)),
  (107, .iadd, 1, (0, 0, 0, .null)),
  (108, .iaload, 1, (0, 0, 0, .null)),
  (109, .iastore, 1, (0, 0, 0, .null)),
  (110, .aload_n 0, 1, (0, 0, 0, .null)),
  (111, .getfield 65, 3, (9, 28, 817, .null)),
  (114, .iload_n 1, 1, (0, 0, 0, .null)),
  (115, .aload_n 0, 1, (0, 0, 0, .null)),
  (116, .getfield 65, 3, (9, 28, 817, .null)),
  (119, .iload_n 1, 1, (0, 0, 0, .null)),
  (120, .iconst 1, 1, (0, 0, 0, .int 1)),
  (121, .iadd, 1, (0, 0, 0, .null)),
  (122, .iaload, 1, (0, 0, 0, .null)),
  (123, .iastore, 1, (0, 0, 0, .null)),
  (124, .aload_n 0, 1, (0, 0, 0, .null)),
  (125, .getfield 68, 3, (9, 29, 818, .null)),
  (128, .iload_n 1, 1, (0, 0, 0, .null)),
  (129, .aload_n 0, 1, (0, 0, 0, .null)),
  (130, .getfield 68, 3, (9, 29, 818, .null)),
  (133, .iload_n 1, 1, (0, 0, 0, .null)),
  (134, .iconst 1, 1, (0, 0, 0, .int 1)),
  (135, .iadd, 1, (0, 0, 0, .null)),
  (136, .iaload, 1, (0, 0, 0, .null)),
  (137, .iastore, 1, (0, 0, 0, .null)),
  (138, .aload_n 0, 1, (0, 0, 0, .null)),
  (139, .getfield 71, 3, (9, 30, 819, .null)),
  (142, .iload_n 1, 1, (0, 0, 0, .null)),
  (143, .aload_n 0, 1, (0, 0, 0, .null)),
  (144, .getfield 71, 3, (9, 30, 819, .null)),
  (147, .iload_n 1, 1, (0, 0, 0, .null)),
  (148, .iconst 1, 1, (0, 0, 0, .int 1)),
  (149, .iadd, 1, (0, 0, 0, .null)),
  (150, .iaload, 1, (0, 0, 0, .null)),
  (151, .iastore, 1, (0, 0, 0, .null)),
  (152, .aload_n 0, 1, (0, 0, 0, .null)),
  (153, .getfield 53, 3, (9, 24, 813, .null)),
  (156, .iload_n 1, 1, (0, 0, 0, .null)),
  (157, .iconst 1, 1, (0, 0, 0, .int 1)),
  (158, .iadd, 1, (0, 0, 0, .null)),
  (159, .iload_n 2, 1, (0, 0, 0, .null)),
  (160, .iastore, 1, (0, 0, 0, .null)),
  (161, .aload_n 0, 1, (0, 0, 0, .null)),
  (162, .getfield 56, 3, (9, 25, 814, .null)),
  (165, .iload_n 1, 1, (0, 0, 0, .null)),
  (166, .iconst 1, 1, (0, 0, 0, .int 1)),
  (167, .iadd, 1, (0, 0, 0, .null)),
  (168, .iload_n 3, 1, (0, 0, 0, .null)),
  (169, .iastore, 1, (0, 0, 0, .null)),
  (170, .aload_n 0, 1, (0, 0, 0, .null)),
  (171, .getfield 59, 3, (9, 26, 815, .null)),
  (174, .iload_n 1, 1, (0, 0, 0, .null)),
  (175, .iconst 1, 1, (0, 0, 0, .int 1)),
  (176, .iadd, 1, (0, 0, 0, .null)),
  (177, .iload 4, 2, (0, 0, 0, .null)),
  (179, .iastore, 1, (0, 0, 0, .null)),
  (180, .aload_n 0, 1, (0, 0, 0, .null)),
  (181, .getfield 62, 3, (9, 27, 816, .null)),
  (184, .iload_n 1, 1, (0, 0, 0, .null)),
  (185, .iconst 1, 1, (0, 0, 0, .int 1)),
  (186, .iadd, 1, (0, 0, 0, .null)),
  (187, .iload 5, 2, (0, 0, 0, .null)),
  (189, .iastore, 1, (0, 0, 0, .null)),
  (190, .aload_n 0, 1, (0, 0, 0, .null)),
  (191, .getfield 65, 3, (9, 28, 817, .null)),
  (194, .iload_n 1, 1, (0, 0, 0, .null)),
  (195, .iconst 1, 1, (0, 0, 0, .int 1)),
  (196, .iadd, 1, (0, 0, 0, .null)),
  (197, .iload 6, 2, (0, 0, 0, .null)),
  (199, .iastore, 1, (0, 0, 0, .null)),
  (200, .aload_n 0, 1, (0, 0, 0, .null)),
  (201, .getfield 68, 3, (9, 29, 818, .null)),
  (204, .iload_n 1, 1, (0, 0, 0, .null)),
  (205, .iconst 1, 1, (0, 0, 0, .int 1)),
  (206, .iadd, 1, (0, 0, 0, .null)),
  (207, .iload 7, 2, (0, 0, 0, .null)),
  (209, .iastore, 1, (0, 0, 0, .null)),
  (210, .aload_n 0, 1, (0, 0, 0, .null)),
  (211, .getfield 71, 3, (9, 30, 819, .null)),
  (214, .iload_n 1, 1, (0, 0, 0, .null)),
  (215, .iconst 1, 1, (0, 0, 0, .int 1)),
  (216, .iadd, 1, (0, 0, 0, .null)),
  (217, .iload 8, 2, (0, 0, 0, .null)),
  (219, .iastore, 1, (0, 0, 0, .null)),
  (220, .return_, 1, (0, 0, 0, .null))]
abbrev md_164 : am_M := (⟨"BindingServerModel", "exchange", "(I)V"⟩, prog_12_method_35_code, 9, none, tb_164)
def tb_165 : List am_I := [(0, .aload_n 0, 1, (0, 0, 0, .null)),
  (1, .getfield 53, 3, (9, 24, 813, .null)),
  (4, .iload_n 1, 1, (0, 0, 0, .null)),
  (5, .iaload, 1, (0, 0, 0, .null)),
  (6, .iconst 4, 1, (0, 0, 0, .int 4)),
  (7, .if_icmp .ne 27, 3, (34, 0, 0, .null)),
  (10, .iload_n 2, 1, (0, 0, 0, .null)),
  (11, .aload_n 0, 1, (0, 0, 0, .null)),
  (12, .getfield 65, 3, (9, 28, 817, .null)),
  (15, .iload_n 1, 1, (0, 0, 0, .null)),
  (16, .iaload, 1, (0, 0, 0, .null)),
  (17, .if_icmp .lt 17, 3, (34, 0, 0, .null)),
  (20, .iload_n 2, 1, (0, 0, 0, .null)),
  (21, .aload_n 0, 1, (0, 0, 0, .null)),
  (22, .getfield 68, 3, (9, 29, 818, .null)),
  (25, .iload_n 1, 1, (0, 0, 0, .null)),
  (26, .iaload, 1, (0, 0, 0, .null)),
  (27, .if_icmp .ge 7, 3, (34, 0, 0, .null)),
  (30, .iconst 1, 1, (0, 0, 0, .int 1)),
  (31, .goto 4, 3, (35, 0, 0, .null)),
  (34, .iconst 0, 1, (0, 0, 0, .int 0)),
  (35, .ireturn, 1, (0, 0, 0, .null))]
abbrev md_165 : am_M := (⟨"BindingServerModel", "inSource", "(II)Z"⟩, prog_12_method_36_code, 3, some .boolean, tb_165)
def tb_166 : List am_I := [(0, .iconst 0, 1, (0, 0, 0, .int 0)),
  (1, .istore_n 2, 1, (0, 0, 0, .null)),
  (2, .iconst 1, 1, (0, 0, 0, .int 1)),
  (3, .istore_n 3, 1, (0, 0, 0, .null)),
  (4, .iload_n 3, 1, (0, 0, 0, .null)),
  (5, .aload_n 0, 1, (0, 0, 0, .null)),
  (6, .getfield 191, 3, (9, 23, 812, .null)),
  (9, .if_icmp .ge 44, 3, (53, 0, 0, .null)),
  (12, .iload_n 1, 1, (0, 0, 0, .null)),
  (13, .aload_n 0, 1, (0, 0, 0, .null)),
  (14, .getfield 59, 3, (9, 26, 815, .null)),
  (17, .iload_n 3, 1, (0, 0, 0, .null)),
  (18, .iaload, 1, (0, 0, 0, .null)),
  (19, .if_icmp .lt 26, 3, (45, 0, 0, .null)),
  (22, .iload_n 1, 1, (0, 0, 0, .null)),
  (23, .aload_n 0, 1, (0, 0, 0, .null)),
  (24, .getfield 62, 3, (9, 27, 816, .null)),
  (27, .iload_n 3, 1, (0, 0, 0, .null)),
  (28, .iaload, 1, (0, 0, 0, .null)),
  (29, .if_icmp .ge 16, 3, (45, 0, 0, .null)),
  (32, .aload_n 0, 1, (0, 0, 0, .null)),
  (33, .iload_n 3, 1, (0, 0, 0, .null)),
  (34, .iload_n 1, 1, (0, 0, 0, .null)),
  (35, .invokevirtual 252, 3, (165, 2, 1068, .ref 9)),
  (38, .ifCond .ne 7, 3, (45, 0, 0, .null)),
  (41, .iload_n 3, 1, (0, 0, 0, .null)),
  (42, .goto 4, 3, (46, 0, 0, .null)),
  (45, .iload_n 2, 1, (0, 0, 0, .null)),
  (46, .istore_n 2, 1, (0, 0, 0, .null)),
  (47, .iinc 3 1, 3, (0, 0, 0, .null)),
  (50, .goto (-46), 3, (4, 0, 0, .null)),
  (53, .iload_n 2, 1, (0, 0, 0, .null)),
  (54, .ireturn, 1, (0, 0, 0, .null))]
abbrev md_166 : am_M := (⟨"BindingServerModel", "lies", "(I)I"⟩, prog_12_method_37_code, 4, some .int, tb_166)
def tb_167 : List am_I := [(0, .iload_n 1, 1, (0, 0, 0, .null)),
  (1, .ifCond .ne 7, 3, (8, 0, 0, .null)),
  (4, .iconst 0, 1, (0, 0, 0, .int 0)),
  (5, .goto 13, 3, (18, 0, 0, .null)),
  (8, .aload_n 0, 1, (0, 0, 0, .null)),
  (9, .aload_n 0, 1, (0, 0, 0, .null)),
  (10, .getfield 56, 3, (9, 25, 814, .null)),
  (13, .iload_n 1, 1, (0, 0, 0, .null)),
  (14, .iaload, 1, (0, 0, 0, .null)),
  (15, .invokevirtual 255, 3, (166, 1, 1064, .ref 9)),
  (18, .ireturn, 1, (0, 0, 0, .null))]
abbrev md_167 : am_M := (⟨"BindingServerModel", "parent", "(I)I"⟩, prog_12_method_38_code, 2, some .int, tb_167)
def tb_168 : List am_I := [(0, .aload_n 0, 1, (0, 0, 0, .null)),
  (1, .aload_n 0, 1, (0, 0, 0, .null)),
  (2, .getfield 74, 3, (9, 32, 821, .null)),
  (5, .iload_n 1, 1, (0, 0, 0, .null)),
  (6, .iaload, 1, (0, 0, 0, .null)),
  (7, .invokevirtual 255, 3, (166, 1, 1064, .ref 9)),
  (10, .istore_n 2, 1, (0, 0, 0, .null)),
  (11, .aload_n 0, 1, (0, 0, 0, .null)),
  (12, .getfield 35, 3, (9, 10, 799, .null)),
  (15, .aload_n 0, 1, (0, 0, 0, .null)),
  (16, .getfield 74, 3, (9, 32, 821, .null)),
  (19, .iload_n 1, 1, (0, 0, 0, .null)),
  (20, .iaload, 1, (0, 0, 0, .null)),
  (21, .iaload, 1, (0, 0, 0, .null)),
  (22, .iconst 3, 1, (0, 0, 0, .int 3)),
  (23, .if_icmp .ne 22, 3, (45, 0, 0, .null)),
  (26, .aload_n 0, 1, (0, 0, 0, .null)),
  (27, .getfield 53, 3, (9, 24, 813, .null)),
  (30, .iload_n 2, 1, (0, 0, 0, .null)),
  (31, .iaload, 1, (0, 0, 0, .null)),
  (32, .iconst 4, 1, (0, 0, 0, .int 4)),
  (33, .if_icmp .ne 12, 3, (45, 0, 0, .null)),
  (36, .aload_n 0, 1, (0, 0, 0, .null)),
  (37, .iload_n 2, 1, (0, 0, 0, .null)),
  (38, .invokevirtual 258, 3, (167, 1, 1072, .ref 9)),
  (41, .istore_n 2, 1, (0, 0, 0, .null)),
  (42, .goto (-31), 3, (11, 0, 0, .null)),
  (45, .iload_n 2, 1, (0, 0, 0, .null)),
  (46, .ireturn, 1, (0, 0, 0, .null))]
abbrev md_168 : am_M := (⟨"BindingServerModel", "belongs", "(I)I"⟩, prog_12_method_39_code, 3, some .int, tb_168)
def tb_169 : List am_I := [(0, .aload_n 0, 1, (0, 0, 0, .null)),
  (1, .iconst 0, 1, (0, 0, 0, .int 0)),
  (2, .putfield 261, 3, (9, 31, 820, .null)),
  (5, .iconst 0, 1, (0, 0, 0, .int 0)),
  (6, .istore_n 1, 1, (0, 0, 0, .null)),
  (7, .iload_n 1, 1, (0, 0, 0, .null)),
  (8, .aload_n 0, 1, (0, 0, 0, .null)),
  (9, .getfield 141, 3, (9, 5, 794, .null)),
  (12, .if_icmp .ge 38, 3, (50, 0, 0, .null)),
  (15, .aload_n 0, 1, (0, 0, 0, .null)),
  (16, .getfield 23, 3, (9, 6, 795, .null)),
  (19, .iload_n 1, 1, (0, 0, 0, .null)),
  (20, .iaload, 1, (0, 0, 0, .null)),
  (21, .ifCond .ne 23, 3, (44, 0, 0, .null)),
  (24, .aload_n 0, 1, (0, 0, 0, .null)),
  (25, .getfield 74, 3, (9, 32, 821, .null)),
  (28, .aload_n 0, 1, (0, 0, 0, .null)),
  (29, .getfield 261, 3, (9, 31, 820, .null)),
  (32, .iload_n 1, 1, (0, 0, 0, .null)),
  (33, .iastore, 1, (0, 0, 0, .null)),
  (34, .aload_n 0, 1, (0, 0, 0, .null)),
  (35, .dup, 1, (0, 0, 0, .null)),
  (36, .getfield 261, 3, (9, 31, 820, .null)),
  (39, .iconst 1, 1, (0, 0, 0, .int 1)),
  (40, .iadd, 1, (0, 0, 0, .null)),
  (41, .putfield 261, 3, (9, 31, 820, .null)),
  (44, .iinc 1 1, 3, (0, 0, 0, .null)),
  (47, .goto (-40), 3, (7, 0, 0, .null)),
  (50, .return_, 1, (0, 0, 0, .null))]
abbrev md_169 : am_M := (⟨"BindingServerModel", "listNames", "()V"⟩, prog_12_method_40_code, 2, none, tb_169)
def tb_170 : List am_I := [(0, .aload_n 0, 1, (0, 0, 0, .null)),
  (1, .getfield 29, 3, (9, 8, 797, .null)),
  (4, .iload_n 1, 1, (0, 0, 0, .null)),
  (5, .iaload, 1, (0, 0, 0, .null)),
  (6, .aload_n 0, 1, (0, 0, 0, .null)),
  (7, .getfield 26, 3, (9, 7, 796, .null)),
  (10, .iload_n 1, 1, (0, 0, 0, .null)),
  (11, .iaload, 1, (0, 0, 0, .null)),
  (12, .isub, 1, (0, 0, 0, .null)),
  (13, .aload_n 0, 1, (0, 0, 0, .null)),
  (14, .getfield 29, 3, (9, 8, 797, .null)),
  (17, .iload_n 2, 1, (0, 0, 0, .null)),
  (18, .iaload, 1, (0, 0, 0, .null)),
  (19, .aload_n 0, 1, (0, 0, 0, .null)),
  (20, .getfield 26, 3, (9, 7, 796, .null)),
  (23, .iload_n 2, 1, (0, 0, 0, .null)),
  (24, .iaload, 1, (0, 0, 0, .null)),
  (25, .isub, 1, (0, 0, 0, .null)),
  (26, .if_icmp .ne 7, 3, (33, 0, 0, .null)),
  (29, .iconst 1, 1, (0, 0, 0, .int 1)),
  (30, .goto 4, 3, (34, 0, 0, .null)),
  (33, .iconst 0, 1, (0, 0, 0, .int 0)),
  (34, .istore_n 3, 1, (0, 0, 0, .null)),
  (35, .iconst 0, 1, (0, 0, 0, .int 0)),
  (36, .istore 4, 2, (0, 0, 0, .null)),
  (38, .iload_n 3, 1, (0, 0, 0, .null)),
  (39, .ifCond .eq 64, 3, (103, 0, 0, .null)),
  (42, .iload 4, 2, (0, 0, 0, .null)),
  (44, .aload_n 0, 1, (0, 0, 0, .null)),
  (45, .getfield 29, 3, (9, 8, 797, .null)),
  (48, .iload_n 1, 1, (0, 0, 0, .null)),
  (49, .iaload, 1, (0, 0, 0, .null)),
  (50, .aload_n 0, 1, (0, 0, 0, .null)),
  (51, .getfield 26, 3, (9, 7, 796, .null)),
  (54, .iload_n 1, 1, (0, 0, 0, .null)),
  (55, .iaload, 1, (0, 0, 0, .null)),
  (56, .isub, 1, (0, 0, 0, .null)),
  (57, .if_icmp .ge 46, 3, (103, 0, 0, .null)),
  (60, .aload_n 0, 1, (0, 0, 0, .null)),
  (61, .getfield 7, 3, (9, 1, 790, .null)),
  (64, .aload_n 0, 1, (0, 0, 0, .null)),
  (65, .getfield 26, 3, (9, 7, 796, .null)),
  (68, .iload_n 1, 1, (0, 0, 0, .null)),
  (69, .iaload, 1, (0, 0, 0, .null)),
  (70, .iload 4, 2, (0, 0, 0, .null)),
  (72, .iadd, 1, (0, 0, 0, .null)),
  (73, .iaload, 1, (0, 0, 0, .null)),
  (74, .aload_n 0, 1, (0, 0, 0, .null)),
  (75, .getfield 7, 3, (9, 1, 790, .null)),
  (78, .aload_n 0, 1, (0, 0, 0, .null)),
  (79, .getfield 26, 3, (9, 7, 796, .null)),
  (82, .iload_n 2, 1, (0, 0, 0, .null)),
  (83, .iaload, 1, (0, 0, 0, .null)),
  (84, .iload 4, 2, (0, 0, 0, .null)),
  (86, .iadd, 1, (0, 0, 0, .null)),
  (87, .iaload, 1, (0, 0, 0, .null)),
  (88, .if_icmp .ne 7, 3, (95, 0, 0, .null)),
  (91, .iconst 1, 1, (0, 0, 0, .int 1)),
  (92, .goto 4, 3, (96, 0, 0, .null)),
  (95, .iconst 0, 1, (0, 0, 0, .int 0)),
  (96, .istore_n 3, 1, (0, 0, 0, .null)),
  (97, .iinc 4 1, 3, (0, 0, 0, .null)),
  (100, .goto (-62), 3, (38, 0, 0, .null)),
  (103, .iload_n 3, 1, (0, 0, 0, .null)),
  (104, .ireturn, 1, (0, 0, 0, .null))]
abbrev md_170 : am_M := (⟨"BindingServerModel", "same", "(II)Z"⟩, prog_12_method_41_code, 5, some .boolean, tb_170)
def tb_171 : List am_I := [(0, .aload_n 0, 1, (0, 0, 0, .null)),
  (1, .getfield 35, 3, (9, 10, 799, .null)),
  (4, .aload_n 0, 1, (0, 0, 0, .null)),
  (5, .getfield 74, 3, (9, 32, 821, .null)),
  (8, .iload_n 1, 1, (0, 0, 0, .null)),
  (9, .iaload, 1, (0, 0, 0, .null)),
  (10, .iaload, 1, (0, 0, 0, .null)),
  (11, .istore_n 2, 1, (0, 0, 0, .null)),
  (12, .iload_n 2, 1, (0, 0, 0, .null)),
  (13, .iconst 1, 1, (0, 0, 0, .int 1)),
  (14, .if_icmp .lt 12, 3, (26, 0, 0, .null)),
  (17, .iload_n 2, 1, (0, 0, 0, .null)),
  (18, .iconst 3, 1, (0, 0, 0, .int 3)),
  (19, .if_icmp .gt 7, 3, (26, 0, 0, .null)),
  (22, .iconst 1, 1, (0, 0, 0, .int 1)),
  (23, .goto 4, 3, (27, 0, 0, .null)),
  (26, .iconst 0, 1, (0, 0, 0, .int 0)),
  (27, .ireturn, 1, (0, 0, 0, .null))]
abbrev md_171 : am_M := (⟨"BindingServerModel", "binds", "(I)Z"⟩, prog_12_method_42_code, 3, some .boolean, tb_171)
def tb_172 : List am_I := [(0, .aload_n 0, 1, (0, 0, 0, .null)),
  (1, .getfield 35, 3, (9, 10, 799, .null)),
  (4, .aload_n 0, 1, (0, 0, 0, .null)),
  (5, .getfield 74, 3, (9, 32, 821, .null)),
  (8, .iload_n 1, 1, (0, 0, 0, .null)),
  (9, .iaload, 1, (0, 0, 0, .null)),
  (10, .iaload, 1, (0, 0, 0, .null)),
  (11, .iconst 4, 1, (0, 0, 0, .int 4)),
  (12, .if_icmp .lt 7, 3, (19, 0, 0, .null)),
  (15, .iconst 1, 1, (0, 0, 0, .int 1)),
  (16, .goto 4, 3, (20, 0, 0, .null)),
  (19, .iconst 0, 1, (0, 0, 0, .int 0)),
  (20, .ireturn, 1, (0, 0, 0, .null))]
abbrev md_172 : am_M := (⟨"BindingServerModel", "declares", "(I)Z"⟩, prog_12_method_43_code, 2, some .boolean, tb_172)
def tb_173 : List am_I := [(0, .iconst 0, 1, (0, 0, 0, .int 0)),
  (1, .istore 6, 2, (0, 0, 0, .null)),
  (3, .iload 6, 2, (0, 0, 0, .null)),
  (5, .iload 5, 2, (0, 0, 0, .null)),
  (7, .if_icmp .ge 63, 3, (70, 0, 0, .null)),
  (10, .aload_n 0, 1, (0, 0, 0, .null)),
  (11, .getfield 35, 3, (9, 10, 799, .null)),
  (14, .aload_n 0, 1, (0, 0, 0, .null)),
  (15, .getfield 74, 3, (9, 32, 821, .null)),
  (18, .iload 6, 2, (0, 0, 0, .null)),
  (20, .iaload, 1, (0, 0, 0, .null)),
  (21, .iaload, 1, (0, 0, 0, .null)),
  (22, .istore 7, 2, (0, 0, 0, .null)),
  (24, .iload 7, 2, (0, 0, 0, .null)),
  (26, .iload_n 3, 1, (0, 0, 0, .null)),
  (27, .if_icmp .lt 37, 3, (64, 0, 0, .null)),
  (30, .iload 7, 2, (0, 0, 0, .null)),
  (32, .iload 4, 2, (0, 0, 0, .null)),
  (34, .if_icmp .gt 30, 3, (64, 0, 0, .null)),
  (37, .aload_n 0, 1, (0, 0, 0, .null)),
  (38, .aload_n 0, 1, (0, 0, 0, .null)),
  (39, .getfield 74, 3, (9, 32, 821, .null)),
  (42, .iload 6, 2, (0, 0, 0, .null)),
  (44, .iaload, 1, (0, 0, 0, .null)),
  (45, .iload_n 2, 1, (0, 0, 0, .null)),
  (46, .invokevirtual 264, 3, (170, 2, 1080, .ref 9)),
  (49, .ifCond .eq 15, 3, (64, 0, 0, .null)),
  (52, .aload_n 0, 1, (0, 0, 0, .null)),
  (53, .iload 6, 2, (0, 0, 0, .null)),
  (55, .invokevirtual 267, 3, (168, 1, 1060, .ref 9)),
  (58, .iload_n 1, 1, (0, 0, 0, .null)),
  (59, .if_icmp .ne 5, 3, (64, 0, 0, .null)),
  (62, .iconst 1, 1, (0, 0, 0, .int 1)),
  (63, .ireturn, 1, (0, 0, 0, .null)),
  (64, .iinc 6 1, 3, (0, 0, 0, .null)),
  (67, .goto (-64), 3, (3, 0, 0, .null)),
  (70, .iconst 0, 1, (0, 0, 0, .int 0)),
  (71, .ireturn, 1, (0, 0, 0, .null))]
abbrev md_173 : am_M := (⟨"BindingServerModel", "some", "(IIIII)Z"⟩, prog_12_method_44_code, 8, some .boolean, tb_173)
def tb_174 : List am_I := [(0, .iload_n 1, 1, (0, 0, 0, .null)),
  (1, .istore_n 3, 1, (0, 0, 0, .null)),
  (2, .iload_n 3, 1, (0, 0, 0, .null)),
  (3, .ifCond .eq 72, 3, (75, 0, 0, .null)),
  (6, .aload_n 0, 1, (0, 0, 0, .null)),
  (7, .iload_n 3, 1, (0, 0, 0, .null)),
  (8, .invokevirtual 258, 3, (167, 1, 1072, .ref 9)),
  (11, .istore_n 3, 1, (0, 0, 0, .null)),
  (12, .iload_n 3, 1, (0, 0, 0, .null)),
  (13, .ifCond .eq (-11), 3, (2, 0, 0, .null)),
  (16, .aload_n 0, 1, (0, 0, 0, .null)),
  (17, .getfield 53, 3, (9, 24, 813, .null)),
  (20, .iload_n 3, 1, (0, 0, 0, .null)),
  (21, .iaload, 1, (0, 0, 0, .null)),
  (22, .iconst 2, 1, (0, 0, 0, .int 2)),
  (23, .if_icmp .eq (-21), 3, (2, 0, 0, .null)),
  (26, .aload_n 0, 1, (0, 0, 0, .null)),
  (27, .iload_n 3, 1, (0, 0, 0, .null)),
  (28, .iload_n 2, 1, (0, 0, 0, .null)),
  (29, .iconst 4, 1, (0, 0, 0, .int 4)),
  (30, .iconst 4, 1, (0, 0, 0, .int 4)),
  (31, .aload_n 0, 1, (0, 0, 0, .null)),
  (32, .getfield 261, 3, (9, 31, 820, .null)),
  (35, .invokevirtual 270, 3, (173, 5, 1076, .ref 9)),
  (38, .ifCond .eq 5, 3, (43, 0, 0, .null)),
  (41, .iconst (-1), 1, (0, 0, 0, .int (-1))),
  (42, .ireturn, 1, (0, 0, 0, .null)),
  (43, .aload_n 0, 1, (0, 0, 0, .null)),
  (44, .iload_n 3, 1, (0, 0, 0, .null)),
  (45, .iload_n 2, 1, (0, 0, 0, .null)),
  (46, .iconst 1, 1, (0, 0, 0, .int 1)),
  (47, .iconst 3, 1, (0, 0, 0, .int 3)),
  (48, .aload_n 0, 1, (0, 0, 0, .null)),
  (49, .getfield 261, 3, (9, 31, 820, .null)),
  (52, .invokevirtual 270, 3, (173, 5, 1076, .ref 9)),
  (55, .ifCond .eq (-53), 3, (2, 0, 0, .null)),
  (58, .aload_n 0, 1, (0, 0, 0, .null)),
  (59, .iload_n 3, 1, (0, 0, 0, .null)),
  (60, .iload_n 2, 1, (0, 0, 0, .null)),
  (61, .iconst 5, 1, (0, 0, 0, .int 5)),
  (62, .iconst 5, 1, (0, 0, 0, .int 5)),
  (63, .aload_n 0, 1, (0, 0, 0, .null)),
  (64, .getfield 261, 3, (9, 31, 820, .null)),
  (67, .invokevirtual 270, 3, (173, 5, 1076, .ref 9)),
  (70, .ifCond .ne (-68), 3, (2, 0, 0, .null)),
  (73, .iload_n 3, 1, (0, 0, 0, .null)),
  (74, .ireturn, 1, (0, 0, 0, .null)),
  (75, .iconst (-1), 1, (0, 0, 0, .int (-1))),
  (76, .ireturn, 1, (0, 0, 0, .null))]
abbrev md_174 : am_M := (⟨"BindingServerModel", "search", "(II)I"⟩, prog_12_method_45_code, 4, some .int, tb_174)
def tb_175 : List am_I := [(0, .aload_n 0, 1, (0, 0, 0, .null)),
  (1, .getfield 274, 3, (9, 34, 823, .null)),
  (4, .ifCond .eq 27, 3, (31, 0, 0, .null)),
  (7, .iload_n 1, 1, (0, 0, 0, .null)),
  (8, .aload_n 0, 1, (0, 0, 0, .null)),
  (9, .getfield 277, 3, (9, 33, 822, .null)),
  (12, .if_icmp .lt 19, 3, (31, 0, 0, .null)),
  (15, .iload_n 1, 1, (0, 0, 0, .null)),
  (16, .aload_n 0, 1, (0, 0, 0, .null)),
  (17, .getfield 277, 3, (9, 33, 822, .null)),
  (20, .if_icmp .ne 21, 3, (41, 0, 0, .null)),
  (23, .iload_n 2, 1, (0, 0, 0, .null)),
  (24, .aload_n 0, 1, (0, 0, 0, .null)),
  (25, .getfield 274, 3, (9, 34, 823, .null)),
  (28, .if_icmp .ge 13, 3, (41, 0, 0, .null)),
  (31, .aload_n 0, 1, (0, 0, 0, .null)),
  (32, .iload_n 2, 1, (0, 0, 0, .null)),
  (33, .putfield 274, 3, (9, 34, 823, .null)),
  (36, .aload_n 0, 1, (0, 0, 0, .null)),
  (37, .iload_n 1, 1, (0, 0, 0, .null)),
  (38, .putfield 277, 3, (9, 33, 822, .null)),
  (41, .return_, 1, (0, 0, 0, .null))]
abbrev md_175 : am_M := (⟨"BindingServerModel", "note", "(II)V"⟩, prog_12_method_46_code, 3, none, tb_175)
def tb_176 : List am_I := [(0, .aload_n 0, 1, (0, 0, 0, .null)),
  (1, .iconst 0, 1, (0, 0, 0, .int 0)),
  (2, .putfield 274, 3, (9, 34, 823, .null)),
  (5, .aload_n 0, 1, (0, 0, 0, .null)),
  (6, .iconst 0, 1, (0, 0, 0, .int 0)),
  (7, .putfield 277, 3, (9, 33, 822, .null)),
  (10, .iconst 0, 1, (0, 0, 0, .int 0)),
  (11, .istore_n 1, 1, (0, 0, 0, .null)),
  (12, .iload_n 1, 1, (0, 0, 0, .null)),
  (13, .aload_n 0, 1, (0, 0, 0, .null)),
  (14, .getfield 261, 3, (9, 31, 820, .null)),
  (17, .if_icmp .ge 81, 3, (98, 0, 0, .null)),
  (20, .aload_n 0, 1, (0, 0, 0, .null)),
  (21, .getfield 74, 3, (9, 32, 821, .null)),
  (24, .iload_n 1, 1, (0, 0, 0, .null)),
  (25, .iaload, 1, (0, 0, 0, .null)),
  (26, .istore_n 2, 1, (0, 0, 0, .null)),
  (27, .aload_n 0, 1, (0, 0, 0, .null)),
  (28, .iload_n 1, 1, (0, 0, 0, .null)),
  (29, .invokevirtual 267, 3, (168, 1, 1060, .ref 9)),
  (32, .istore_n 3, 1, (0, 0, 0, .null)),
  (33, .aload_n 0, 1, (0, 0, 0, .null)),
  (34, .getfield 35, 3, (9, 10, 799, .null)),
  (37, .iload_n 2, 1, (0, 0, 0, .null)),
  (38, .iaload, 1, (0, 0, 0, .null)),
  (39, .iconst 2, 1, (0, 0, 0, .int 2)),
  (40, .if_icmp .ne 21, 3, (61, 0, 0, .null)),
  (43, .aload_n 0, 1, (0, 0, 0, .null)),
  (44, .iload_n 3, 1, (0, 0, 0, .null)),
  (45, .iload_n 2, 1, (0, 0, 0, .null)),
  (46, .iconst 2, 1, (0, 0, 0, .int 2)),
  (47, .iconst 2, 1, (0, 0, 0, .int 2)),
  (48, .iload_n 1, 1, (0, 0, 0, .null)),
  (49, .invokevirtual 270, 3, (173, 5, 1076, .ref 9)),
  (52, .ifCond .eq 9, 3, (61, 0, 0, .null)),
  (55, .aload_n 0, 1, (0, 0, 0, .null)),
  (56, .iload_n 2, 1, (0, 0, 0, .null)),
  (57, .iconst 1, 1, (0, 0, 0, .int 1)),
  (58, .invokevirtual 280, 3, (175, 2, 1084, .ref 9)),
  (61, .aload_n 0, 1, (0, 0, 0, .null)),
  (62, .iload_n 1, 1, (0, 0, 0, .null)),
  (63, .invokevirtual 283, 3, (172, 1, 1088, .ref 9)),
  (66, .ifCond .eq 10, 3, (76, 0, 0, .null)),
  (69, .aload_n 0, 1, (0, 0, 0, .null)),
  (70, .iload_n 1, 1, (0, 0, 0, .null)),
  (71, .iload_n 2, 1, (0, 0, 0, .null)),
  (72, .iload_n 3, 1, (0, 0, 0, .null)),
  (73, .invokevirtual 286, 3, (177, 3, 1092, .ref 9)),
  (76, .aload_n 0, 1, (0, 0, 0, .null)),
  (77, .getfield 35, 3, (9, 10, 799, .null)),
  (80, .iload_n 2, 1, (0, 0, 0, .null)),
  (81, .iaload, 1, (0, 0, 0, .null)),
  (82, .iconst 3, 1, (0, 0, 0, .int 3)),
  (83, .if_icmp .ne 9, 3, (92, 0, 0, .null)),
  (86, .aload_n 0, 1, (0, 0, 0, .null)),
  (87, .iload_n 2, 1, (0, 0, 0, .null)),
  (88, .iload_n 3, 1, (0, 0, 0, .null)),
  (89, .invokevirtual 290, 3, (178, 2, 1100, .ref 9)),
  (92, .iinc 1 1, 3, (0, 0, 0, .null)),
  (95, .goto (-83), 3, (12, 0, 0, .null)),
  (98, .iconst 0, 1, (0, 0, 0, .int 0)),
  (99, .istore_n 1, 1, (0, 0, 0, .null)),
  (100, .iload_n 1, 1, (0, 0, 0, .null)),
  (101, .aload_n 0, 1, (0, 0, 0, .null)),
  (102, .getfield 141, 3, (9, 5, 794, .null)),
  (105, .if_icmp .ge 51, 3, (156, 0, 0, .null)),
  (108, .aload_n 0, 1, (0, 0, 0, .null)),
  (109, .getfield 23, 3, (9, 6, 795, .null)),
  (112, .iload_n 1, 1, (0, 0, 0, .null)),
  (113, .iaload, 1, (0, 0, 0, .null)),
  (114, .iconst 2, 1, (0, 0, 0, .int 2)),
  (115, .if_icmp .ne 35, 3, (150, 0, 0, .null)),
  (118, .aload_n 0, 1, (0, 0, 0, .null)),
  (119, .getfield 32, 3, (9, 9, 798, .null)),
  (122, .iload_n 1, 1, (0, 0, 0, .null)),
  (123, .iaload, 1, (0, 0, 0, .null)),
  (124, .bipush 13, 2, (0, 0, 0, .int 13)),
  (126, .if_icmp .ne 24, 3, (150, 0, 0, .null)),
  (129, .aload_n 0, 1, (0, 0, 0, .null)),
  (130, .getfield 53, 3, (9, 24, 813, .null)),
  (133, .aload_n 0, 1, (0, 0, 0, .null)),
  (134, .iload_n 1, 1, (0, 0, 0, .null)),
  (135, .invokevirtual 255, 3, (166, 1, 1064, .ref 9)),
  (138, .iaload, 1, (0, 0, 0, .null)),
  (139, .iconst 1, 1, (0, 0, 0, .int 1)),
  (140, .if_icmp .eq 10, 3, (150, 0, 0, .null)),
  (143, .aload_n 0, 1, (0, 0, 0, .null)),
  (144, .iload_n 1, 1, (0, 0, 0, .null)),
  (145, .bipush 7, 2, (0, 0, 0, .int 7)),
  (147, .invokevirtual 280, 3, (175, 2, 1084, .ref 9)),
  (150, .iinc 1 1, 3, (0, 0, 0, .null)),
  (153, .goto (-53), 3, (100, 0, 0, .null)),
  (156, .return_, 1, (0, 0, 0, .null))]
abbrev md_176 : am_M := (⟨"BindingServerModel", "findError", "()V"⟩, prog_12_method_47_code, 4, none, tb_176)
def tb_177 : List am_I := [(0, .aload_n 0, 1, (0, 0, 0, .null)),
  (1, .iload_n 3, 1, (0, 0, 0, .null)),
  (2, .iload_n 2, 1, (0, 0, 0, .null)),
  (3, .iconst 2, 1, (0, 0, 0, .int 2)),
  (4, .iconst 2, 1, (0, 0, 0, .int 2)),
  (5, .aload_n 0, 1, (0, 0, 0, .null)),
  (6, .getfield 261, 3, (9, 31, 820, .null)),
  (9, .invokevirtual 270, 3, (173, 5, 1076, .ref 9)),
  (12, .ifCond .eq 9, 3, (21, 0, 0, .null)),
  (15, .aload_n 0, 1, (0, 0, 0, .null)),
  (16, .iload_n 2, 1, (0, 0, 0, .null)),
  (17, .iconst 2, 1, (0, 0, 0, .int 2)),
  (18, .invokevirtual 280, 3, (175, 2, 1084, .ref 9)),
  (21, .aload_n 0, 1, (0, 0, 0, .null)),
  (22, .iload_n 3, 1, (0, 0, 0, .null)),
  (23, .iload_n 2, 1, (0, 0, 0, .null)),
  (24, .iconst 0, 1, (0, 0, 0, .int 0)),
  (25, .iconst 3, 1, (0, 0, 0, .int 3)),
  (26, .iload_n 1, 1, (0, 0, 0, .null)),
  (27, .invokevirtual 270, 3, (173, 5, 1076, .ref 9)),
  (30, .ifCond .eq 9, 3, (39, 0, 0, .null)),
  (33, .aload_n 0, 1, (0, 0, 0, .null)),
  (34, .iload_n 2, 1, (0, 0, 0, .null)),
  (35, .iconst 3, 1, (0, 0, 0, .int 3)),
  (36, .invokevirtual 280, 3, (175, 2, 1084, .ref 9)),
  (39, .aload_n 0, 1, (0, 0, 0, .null)),
  (40, .getfield 35, 3, (9, 10, 799, .null)),
  (43, .iload_n 2, 1, (0, 0, 0, .null)),
  (44, .iaload, 1, (0, 0, 0, .null)),
  (45, .iconst 5, 1, (0, 0, 0, .int 5)),
  (46, .if_icmp .ne 13, 3, (59, 0, 0, .null)),
  (49, .iload_n 3, 1, (0, 0, 0, .null)),
  (50, .ifCond .ne 9, 3, (59, 0, 0, .null)),
  (53, .aload_n 0, 1, (0, 0, 0, .null)),
  (54, .iload_n 2, 1, (0, 0, 0, .null)),
  (55, .iconst 4, 1, (0, 0, 0, .int 4)),
  (56, .invokevirtual 280, 3, (175, 2, 1084, .ref 9)),
  (59, .bipush 9, 2, (0, 0, 0, .int 9)),
  (61, .aload_n 0, 1, (0, 0, 0, .null)),
  (62, .getfield 35, 3, (9, 10, 799, .null)),
  (65, .iload_n 2, 1, (0, 0, 0, .null)),
  (66, .iaload, 1, (0, 0, 0, .null)),
  (67, .isub, 1, (0, 0, 0, .null)),
  (68, .istore 4, 2, (0, 0, 0, .null)),
  (70, .aload_n 0, 1, (0, 0, 0, .null)),
  (71, .iload_n 3, 1, (0, 0, 0, .null)),
  (72, .iload_n 2, 1, (0, 0, 0, .null)),
  (73, .iload 4, 2, (0, 0, 0, .null)),
  (75, .iload 4, 2, (0, 0, 0, .null)),
  (77, .iload_n 1, 1, (0, 0, 0, .null)),
  (78, .invokevirtual 270, 3, (173, 5, 1076, .ref 9)),
  (81, .ifCond .eq 9, 3, (90, 0, 0, .null)),
  (84, .aload_n 0, 1, (0, 0, 0, .null)),
  (85, .iload_n 2, 1, (0, 0, 0, .null)),
  (86, .iconst 5, 1, (0, 0, 0, .int 5)),
  (87, .invokevirtual 280, 3, (175, 2, 1084, .ref 9)),
  (90, .aload_n 0, 1, (0, 0, 0, .null)),
  (91, .getfield 35, 3, (9, 10, 799, .null)),
  (94, .iload_n 2, 1, (0, 0, 0, .null)),
  (95, .iaload, 1, (0, 0, 0, .null)),
  (96, .iconst 5, 1, (0, 0, 0, .int 5)),
  (97, .if_icmp .ne 23, 3, (120, 0, 0, .null)),
  (100, .iload_n 3, 1, (0, 0, 0, .null)),
  (101, .ifCond .eq 19, 3, (120, 0, 0, .null)),
  (104, .aload_n 0, 1, (0, 0, 0, .null)),
  (105, .iload_n 3, 1, (0, 0, 0, .null)),
  (106, .iload_n 2, 1, (0, 0, 0, .null)),
  (107, .invokevirtual 293, 3, (174, 2, 1096, .ref 9)),
  (110, .ifCond .ge 10, 3, (120, 0, 0, .null)),
  (113, .aload_n 0, 1, (0, 0, 0, .null)),
  (114, .iload_n 2, 1, (0, 0, 0, .null)),
  (115, .bipush 6, 2, (0, 0, 0, .int 6)),
  (117, .invokevirtual 280, 3, (175, 2, 1084, .ref 9)),
  (120, .return_, 1, (0, 0, 0, .null))]
abbrev md_177 : am_M := (⟨"BindingServerModel", "declared", "(III)V"⟩, prog_12_method_48_code, 5, none, tb_177)
def tb_178 : List am_I := [(0, .aload_n 0, 1, (0, 0, 0, .null)),
  (1, .iload_n 1, 1, (0, 0, 0, .null)),
  (2, .invokevirtual 255, 3, (166, 1, 1064, .ref 9)),
  (5, .istore_n 3, 1, (0, 0, 0, .null)),
  (6, .aload_n 0, 1, (0, 0, 0, .null)),
  (7, .getfield 53, 3, (9, 24, 813, .null)),
  (10, .iload_n 3, 1, (0, 0, 0, .null)),
  (11, .iaload, 1, (0, 0, 0, .null)),
  (12, .iconst 4, 1, (0, 0, 0, .int 4)),
  (13, .if_icmp .ne 20, 3, (33, 0, 0, .null)),
  (16, .aload_n 0, 1, (0, 0, 0, .null)),
  (17, .getfield 53, 3, (9, 24, 813, .null)),
  (20, .iload_n 2, 1, (0, 0, 0, .null)),
  (21, .iaload, 1, (0, 0, 0, .null)),
  (22, .iconst 2, 1, (0, 0, 0, .int 2)),
  (23, .if_icmp .ne 10, 3, (33, 0, 0, .null)),
  (26, .aload_n 0, 1, (0, 0, 0, .null)),
  (27, .iload_n 1, 1, (0, 0, 0, .null)),
  (28, .bipush 8, 2, (0, 0, 0, .int 8)),
  (30, .invokevirtual 280, 3, (175, 2, 1084, .ref 9)),
  (33, .aload_n 0, 1, (0, 0, 0, .null)),
  (34, .getfield 53, 3, (9, 24, 813, .null)),
  (37, .iload_n 3, 1, (0, 0, 0, .null)),
  (38, .iaload, 1, (0, 0, 0, .null)),
  (39, .iconst 4, 1, (0, 0, 0, .int 4)),
  (40, .if_icmp .ne 33, 3, (73, 0, 0, .null)),
  (43, .aload_n 0, 1, (0, 0, 0, .null)),
  (44, .aload_n 0, 1, (0, 0, 0, .null)),
  (45, .getfield 71, 3, (9, 30, 819, .null)),
  (48, .iload_n 3, 1, (0, 0, 0, .null)),
  (49, .iaload, 1, (0, 0, 0, .null)),
  (50, .iload_n 1, 1, (0, 0, 0, .null)),
  (51, .invokevirtual 264, 3, (170, 2, 1080, .ref 9)),
  (54, .ifCond .eq 10, 3, (64, 0, 0, .null)),
  (57, .aload_n 0, 1, (0, 0, 0, .null)),
  (58, .iload_n 1, 1, (0, 0, 0, .null)),
  (59, .bipush 9, 2, (0, 0, 0, .int 9)),
  (61, .invokevirtual 280, 3, (175, 2, 1084, .ref 9)),
  (64, .aload_n 0, 1, (0, 0, 0, .null)),
  (65, .iload_n 3, 1, (0, 0, 0, .null)),
  (66, .invokevirtual 258, 3, (167, 1, 1072, .ref 9)),
  (69, .istore_n 3, 1, (0, 0, 0, .null)),
  (70, .goto (-37), 3, (33, 0, 0, .null)),
  (73, .iconst 1, 1, (0, 0, 0, .int 1)),
  (74, .istore 4, 2, (0, 0, 0, .null)),
  (76, .iload 4, 2, (0, 0, 0, .null)),
  (78, .aload_n 0, 1, (0, 0, 0, .null)),
  (79, .getfield 191, 3, (9, 23, 812, .null)),
  (82, .if_icmp .ge 26, 3, (108, 0, 0, .null)),
  (85, .aload_n 0, 1, (0, 0, 0, .null)),
  (86, .iload 4, 2, (0, 0, 0, .null)),
  (88, .iload_n 1, 1, (0, 0, 0, .null)),
  (89, .invokevirtual 252, 3, (165, 2, 1068, .ref 9)),
  (92, .ifCond .eq 10, 3, (102, 0, 0, .null)),
  (95, .aload_n 0, 1, (0, 0, 0, .null)),
  (96, .iload_n 1, 1, (0, 0, 0, .null)),
  (97, .bipush 10, 2, (0, 0, 0, .int 10)),
  (99, .invokevirtual 280, 3, (175, 2, 1084, .ref 9)),
  (102, .iinc 4 1, 3, (0, 0, 0, .null)),
  (105, .goto (-29), 3, (76, 0, 0, .null)),
  (108, .return_, 1, (0, 0, 0, .null))]
abbrev md_178 : am_M := (⟨"BindingServerModel", "walrus", "(II)V"⟩, prog_12_method_49_code, 5, none, tb_178)
def tb_179 : List am_I := [(0, .aload_n 0, 1, (0, 0, 0, .null)),
  (1, .getfield 74, 3, (9, 32, 821, .null)),
  (4, .iload_n 1, 1, (0, 0, 0, .null)),
  (5, .iaload, 1, (0, 0, 0, .null)),
  (6, .istore_n 2, 1, (0, 0, 0, .null)),
  (7, .aload_n 0, 1, (0, 0, 0, .null)),
  (8, .iload_n 1, 1, (0, 0, 0, .null)),
  (9, .invokevirtual 267, 3, (168, 1, 1060, .ref 9)),
  (12, .istore_n 3, 1, (0, 0, 0, .null)),
  (13, .aload_n 0, 1, (0, 0, 0, .null)),
  (14, .iload_n 3, 1, (0, 0, 0, .null)),
  (15, .iload_n 2, 1, (0, 0, 0, .null)),
  (16, .iconst 4, 1, (0, 0, 0, .int 4)),
  (17, .iconst 4, 1, (0, 0, 0, .int 4)),
  (18, .aload_n 0, 1, (0, 0, 0, .null)),
  (19, .getfield 261, 3, (9, 31, 820, .null)),
  (22, .invokevirtual 270, 3, (173, 5, 1076, .ref 9)),
  (25, .ifCond .eq 7, 3, (32, 0, 0, .null)),
  (28, .sipush 256, 3, (0, 0, 0, .int 256)),
  (31, .ireturn, 1, (0, 0, 0, .null)),
  (32, .aload_n 0, 1, (0, 0, 0, .null)),
  (33, .iload_n 3, 1, (0, 0, 0, .null)),
  (34, .iload_n 2, 1, (0, 0, 0, .null)),
  (35, .iconst 5, 1, (0, 0, 0, .int 5)),
  (36, .iconst 5, 1, (0, 0, 0, .int 5)),
  (37, .aload_n 0, 1, (0, 0, 0, .null)),
  (38, .getfield 261, 3, (9, 31, 820, .null)),
  (41, .invokevirtual 270, 3, (173, 5, 1076, .ref 9)),
  (44, .istore 4, 2, (0, 0, 0, .null)),
  (46, .iload_n 3, 1, (0, 0, 0, .null)),
  (47, .ifCond .eq 28, 3, (75, 0, 0, .null)),
  (50, .iload 4, 2, (0, 0, 0, .null)),
  (52, .ifCond .ne 23, 3, (75, 0, 0, .null)),
  (55, .aload_n 0, 1, (0, 0, 0, .null)),
  (56, .iload_n 3, 1, (0, 0, 0, .null)),
  (57, .iload_n 2, 1, (0, 0, 0, .null)),
  (58, .iconst 1, 1, (0, 0, 0, .int 1)),
  (59, .iconst 3, 1, (0, 0, 0, .int 3)),
  (60, .aload_n 0, 1, (0, 0, 0, .null)),
  (61, .getfield 261, 3, (9, 31, 820, .null)),
  (64, .invokevirtual 270, 3, (173, 5, 1076, .ref 9)),
  (67, .ifCond .eq 8, 3, (75, 0, 0, .null)),
  (70, .bipush 64, 2, (0, 0, 0, .int 64)),
  (72, .iload_n 3, 1, (0, 0, 0, .null)),
  (73, .iadd, 1, (0, 0, 0, .null)),
  (74, .ireturn, 1, (0, 0, 0, .null)),
  (75, .iload_n 3, 1, (0, 0, 0, .null)),
  (76, .ifCond .ne 7, 3, (83, 0, 0, .null)),
  (79, .iconst (-1), 1, (0, 0, 0, .int (-1))),
  (80, .goto 9, 3, (89, 0, 0, .null)),
  (83, .aload_n 0, 1, (0, 0, 0, .null)),
  (84, .iload_n 3, 1, (0, 0, 0, .null)),
  (85, .iload_n 2, 1, (0, 0, 0, .null)),
  (86, .invokevirtual 293, 3, (174, 2, 1096, .ref 9)),
  (89, .istore 5, 2, (0, 0, 0, .null)),
  (91, .iload 5, 2, (0, 0, 0, .null)),
  (93, .ifCond .lt 12, 3, (105, 0, 0, .null)),
  (96, .sipush 192, 3, (0, 0, 0, .int 192)),
  (99, .iload 5, 2, (0, 0, 0, .null)),
  (101, .iadd, 1, (0, 0, 0, .null)),
  (102, .goto 6, 3, (108, 0, 0, .null)),
  (105, .sipush 320, 3, (0, 0, 0, .int 320)),
  (108, .ireturn, 1, (0, 0, 0, .null))]
abbrev md_179 : am_M := (⟨"BindingServerModel", "meant", "(I)I"⟩, prog_12_method_50_code, 6, some .int, tb_179)
def tb_180 : List am_I := [(0, .iconst 0, 1, (0, 0, 0, .int 0)),
  (1, .istore_n 2, 1, (0, 0, 0, .null)),
  (2, .iload_n 2, 1, (0, 0, 0, .null)),
  (3, .aload_n 0, 1, (0, 0, 0, .null)),
  (4, .getfield 261, 3, (9, 31, 820, .null)),
  (7, .if_icmp .ge 58, 3, (65, 0, 0, .null)),
  (10, .aload_n 0, 1, (0, 0, 0, .null)),
  (11, .iload_n 2, 1, (0, 0, 0, .null)),
  (12, .invokevirtual 296, 3, (171, 1, 1164, .ref 9)),
  (15, .ifCond .eq 44, 3, (59, 0, 0, .null)),
  (18, .aload_n 0, 1, (0, 0, 0, .null)),
  (19, .aload_n 0, 1, (0, 0, 0, .null)),
  (20, .getfield 74, 3, (9, 32, 821, .null)),
  (23, .iload_n 2, 1, (0, 0, 0, .null)),
  (24, .iaload, 1, (0, 0, 0, .null)),
  (25, .iload_n 1, 1, (0, 0, 0, .null)),
  (26, .invokevirtual 264, 3, (170, 2, 1080, .ref 9)),
  (29, .ifCond .eq 30, 3, (59, 0, 0, .null)),
  (32, .aload_n 0, 1, (0, 0, 0, .null)),
  (33, .iload_n 2, 1, (0, 0, 0, .null)),
  (34, .invokevirtual 267, 3, (168, 1, 1060, .ref 9)),
  (37, .istore_n 3, 1, (0, 0, 0, .null)),
  (38, .iload_n 3, 1, (0, 0, 0, .null)),
  (39, .ifCond .eq 18, 3, (57, 0, 0, .null)),
  (42, .aload_n 0, 1, (0, 0, 0, .null)),
  (43, .iload_n 3, 1, (0, 0, 0, .null)),
  (44, .iload_n 1, 1, (0, 0, 0, .null)),
  (45, .iconst 4, 1, (0, 0, 0, .int 4)),
  (46, .iconst 4, 1, (0, 0, 0, .int 4)),
  (47, .aload_n 0, 1, (0, 0, 0, .null)),
  (48, .getfield 261, 3, (9, 31, 820, .null)),
  (51, .invokevirtual 270, 3, (173, 5, 1076, .ref 9)),
  (54, .ifCond .eq 5, 3, (59, 0, 0, .null)),
  (57, .iconst 1, 1, (0, 0, 0, .int 1)),
  (58, .ireturn, 1, (0, 0, 0, .null)),
  (59, .iinc 2 1, 3, (0, 0, 0, .null)),
  (62, .goto (-60), 3, (2, 0, 0, .null)),
  (65, .iconst 0, 1, (0, 0, 0, .int 0)),
  (66, .ireturn, 1, (0, 0, 0, .null))]
abbrev md_180 : am_M := (⟨"BindingServerModel", "isKnown", "(I)Z"⟩, prog_12_method_51_code, 4, some .boolean, tb_180)
def tb_181 : List am_I := [(0, .aload_n 0, 1, (0, 0, 0, .null)),
  (1, .iload_n 1, 1, (0, 0, 0, .null)),
  (2, .invokevirtual 299, 3, (179, 1, 1156, .ref 9)),
  (5, .istore_n 2, 1, (0, 0, 0, .null)),
  (6, .iload_n 2, 1, (0, 0, 0, .null)),
  (7, .bipush 64, 2, (0, 0, 0, .int 64)),
  (9, .irem, 1, (0, 0, 0, .null)),
  (10, .istore_n 3, 1, (0, 0, 0, .null)),
  (11, .iload_n 2, 1, (0, 0, 0, .null)),
  (12, .bipush 64, 2, (0, 0, 0, .int 64)),
  (14, .idiv, 1, (0, 0, 0, .null)),
  (15, .istore 4, 2, (0, 0, 0, .null)),
  (17, .aload_n 0, 1, (0, 0, 0, .null)),
  (18, .iload_n 1, 1, (0, 0, 0, .null)),
  (19, .invokevirtual 267, 3, (168, 1, 1060, .ref 9)),
  (22, .istore 5, 2, (0, 0, 0, .null)),
  (24, .iload 4, 2, (0, 0, 0, .null)),
  (26, .iconst 1, 1, (0, 0, 0, .int 1)),
  (27, .if_icmp .ne 86, 3, (113, 0, 0, .null)),
  (30, .iconst 0, 1, (0, 0, 0, .int 0)),
  (31, .istore 6, 2, (0, 0, 0, .null)),
  (33, .iload 6, 2, (0, 0, 0, .null)),
  (35, .aload_n 0, 1, (0, 0, 0, .null)),
  (36, .getfield 261, 3, (9, 31, 820, .null)),
  (39, .if_icmp .ge 74, 3, (113, 0, 0, .null)),
  (42, .aload_n 0, 1, (0, 0, 0, .null)),
  (43, .aload_n 0, 1, (0, 0, 0, .null)),
  (44, .getfield 74, 3, (9, 32, 821, .null)),
  (47, .iload 6, 2, (0, 0, 0, .null)),
  (49, .iaload, 1, (0, 0, 0, .null)),
  (50, .aload_n 0, 1, (0, 0, 0, .null)),
  (51, .getfield 74, 3, (9, 32, 821, .null)),
  (54, .iload_n 1, 1, (0, 0, 0, .null)),
  (55, .iaload, 1, (0, 0, 0, .null)),
  (56, .invokevirtual 264, 3, (170, 2, 1080, .ref 9)),
  (59, .ifCond .eq 32, 3, (91, 0, 0, .null)),
  (62, .aload_n 0, 1, (0, 0, 0, .null)),
  (63, .iload 6, 2, (0, 0, 0, .null)),
  (65, .invokevirtual 267, 3, (168, 1, 1060, .ref 9)),
  (68, .iload 5, 2, (0, 0, 0, .null)),
  (70, .if_icmp .eq 21, 3, (91, 0, 0, .null)),
  (73, .aload_n 0, 1, (0, 0, 0, .null)),
  (74, .iload 6, 2, (0, 0, 0, .null)),
  (76, .invokevirtual 299, 3, (179, 1, 1156, .ref 9)),
  (79, .sipush 192, 3, (0, 0, 0, .int 192)),
  (82, .iload_n 3, 1, (0, 0, 0, .null)),
  (83, .iadd, 1, (0, 0, 0, .null)),
  (84, .if_icmp .ne 7, 3, (91, 0, 0, .null)),
  (87, .iconst 1, 1, (0, 0, 0, .int 1)),
  (88, .goto 4, 3, (92, 0, 0, .null)),
  (91, .iconst 0, 1, (0, 0, 0, .int 0)),
  (92, .istore 7, 2, (0, 0, 0, .null)),
  (94, .iload 7, 2, (0, 0, 0, .null)),
  (96, .ifCond .eq 7, 3, (103, 0, 0, .null)),
  (99, .iconst 2, 1, (0, 0, 0, .int 2)),
  (100, .goto 5, 3, (105, 0, 0, .null)),
  (103, .iload 4, 2, (0, 0, 0, .null)),
  (105, .istore 4, 2, (0, 0, 0, .null)),
  (107, .iinc 6 1, 3, (0, 0, 0, .null)),
  (110, .goto (-77), 3, (33, 0, 0, .null)),
  (113, .iload 4, 2, (0, 0, 0, .null)),
  (115, .iconst 5, 1, (0, 0, 0, .int 5)),
  (116, .if_icmp .ne 24, 3, (140, 0, 0, .null)),
  (119, .aload_n 0, 1, (0, 0, 0, .null)),
  (120, .aload_n 0, 1, (0, 0, 0, .null)),
  (121, .getfield 74, 3, (9, 32, 821, .null)),
  (124, .iload_n 1, 1, (0, 0, 0, .null)),
  (125, .iaload, 1, (0, 0, 0, .null)),
  (126, .invokevirtual 302, 3, (180, 1, 1160, .ref 9)),
  (129, .ifCond .eq 7, 3, (136, 0, 0, .null)),
  (132, .iconst 5, 1, (0, 0, 0, .int 5)),
  (133, .goto 5, 3, (138, 0, 0, .null)),
  (136, .bipush 6, 2, (0, 0, 0, .int 6)),
  (138, .istore 4, 2, (0, 0, 0, .null)),
  (140, .iload 4, 2, (0, 0, 0, .null)),
  (142, .bipush 8, 2, (0, 0, 0, .int 8)),
  (144, .iload_n 3, 1, (0, 0, 0, .null)),
  (145, .imul, 1, (0, 0, 0, .null)),
  (146, .iadd, 1, (0, 0, 0, .null)),
  (147, .sipush 512, 3, (0, 0, 0, .int 512)),
  (150, .iload 5, 2, (0, 0, 0, .null)),
  (152, .imul, 1, (0, 0, 0, .null)),
  (153, .iadd, 1, (0, 0, 0, .null)),
  (154, .ireturn, 1, (0, 0, 0, .null))]
abbrev md_181 : am_M := (⟨"BindingServerModel", "resolved", "(I)I"⟩, prog_12_method_52_code, 8, some .int, tb_181)
def tb_182 : List am_I := [(0, .aload_n 0, 1, (0, 0, 0, .null)),
  (1, .invokevirtual 305, 3, (136, 0, 924, .ref 9)),
  (4, .aload_n 0, 1, (0, 0, 0, .null)),
  (5, .getfield 101, 3, (9, 18, 807, .null)),
  (8, .ifCond .ne 14, 3, (22, 0, 0, .null)),
  (11, .aload_n 0, 1, (0, 0, 0, .null)),
  (12, .getfield 274, 3, (9, 34, 823, .null)),
  (15, .ifCond .ne 7, 3, (22, 0, 0, .null)),
  (18, .iconst 1, 1, (0, 0, 0, .int 1)),
  (19, .goto 4, 3, (23, 0, 0, .null)),
  (22, .iconst 0, 1, (0, 0, 0, .int 0)),
  (23, .ireturn, 1, (0, 0, 0, .null))]
abbrev md_182 : am_M := (⟨"BindingServerModel", "fine", "()Z"⟩, prog_12_method_53_code, 1, some .boolean, tb_182)
def tb_183 : List am_I := [(0, .aload_n 0, 1, (0, 0, 0, .null)),
  (1, .invokevirtual 308, 3, (182, 0, 1148, .ref 9)),
  (4, .istore_n 2, 1, (0, 0, 0, .null)),
  (5, .iconst 0, 1, (0, 0, 0, .int 0)),
  (6, .istore_n 3, 1, (0, 0, 0, .null)),
  (7, .iload_n 3, 1, (0, 0, 0, .null)),
  (8, .aload_n 0, 1, (0, 0, 0, .null)),
  (9, .getfield 261, 3, (9, 31, 820, .null)),
  (12, .if_icmp .ge 45, 3, (57, 0, 0, .null)),
  (15, .iload_n 2, 1, (0, 0, 0, .null)),
  (16, .ifCond .eq 41, 3, (57, 0, 0, .null)),
  (19, .iload_n 1, 1, (0, 0, 0, .null)),
  (20, .aload_n 0, 1, (0, 0, 0, .null)),
  (21, .getfield 26, 3, (9, 7, 796, .null)),
  (24, .aload_n 0, 1, (0, 0, 0, .null)),
  (25, .getfield 74, 3, (9, 32, 821, .null)),
  (28, .iload_n 3, 1, (0, 0, 0, .null)),
  (29, .iaload, 1, (0, 0, 0, .null)),
  (30, .iaload, 1, (0, 0, 0, .null)),
  (31, .if_icmp .lt 20, 3, (51, 0, 0, .null)),
  (34, .iload_n 1, 1, (0, 0, 0, .null)),
  (35, .aload_n 0, 1, (0, 0, 0, .null)),
  (36, .getfield 29, 3, (9, 8, 797, .null)),
  (39, .aload_n 0, 1, (0, 0, 0, .null)),
  (40, .getfield 74, 3, (9, 32, 821, .null)),
  (43, .iload_n 3, 1, (0, 0, 0, .null)),
  (44, .iaload, 1, (0, 0, 0, .null)),
  (45, .iaload, 1, (0, 0, 0, .null)),
  (46, .if_icmp .ge 5, 3, (51, 0, 0, .null)),
  (49, .iload_n 3, 1, (0, 0, 0, .null)),
  (50, .ireturn, 1, (0, 0, 0, .null)),
  (51, .iinc 3 1, 3, (0, 0, 0, .null)),
  (54, .goto (-47), 3, (7, 0, 0, .null)),
  (57, .iconst (-1), 1, (0, 0, 0, .int (-1))),
  (58, .ireturn, 1, (0, 0, 0, .null))]
abbrev md_183 : am_M := (⟨"BindingServerModel", "occurrence", "(I)I"⟩, prog_12_method_54_code, 4, some .int, tb_183)
def tb_184 : List am_I := [(0, .aload_n 0, 1, (0, 0, 0, .null)),
  (1, .aload_n 0, 1, (0, 0, 0, .null)),
  (2, .getfield 74, 3, (9, 32, 821, .null)),
  (5, .iload_n 1, 1, (0, 0, 0, .null)),
  (6, .iaload, 1, (0, 0, 0, .null)),
  (7, .aload_n 0, 1, (0, 0, 0, .null)),
  (8, .getfield 74, 3, (9, 32, 821, .null)),
  (11, .iload_n 2, 1, (0, 0, 0, .null)),
  (12, .iaload, 1, (0, 0, 0, .null)),
  (13, .invokevirtual 264, 3, (170, 2, 1080, .ref 9)),
  (16, .ifCond .eq 26, 3, (42, 0, 0, .null)),
  (19, .aload_n 0, 1, (0, 0, 0, .null)),
  (20, .iload_n 1, 1, (0, 0, 0, .null)),
  (21, .invokevirtual 299, 3, (179, 1, 1156, .ref 9)),
  (24, .bipush 64, 2, (0, 0, 0, .int 64)),
  (26, .irem, 1, (0, 0, 0, .null)),
  (27, .aload_n 0, 1, (0, 0, 0, .null)),
  (28, .iload_n 2, 1, (0, 0, 0, .null)),
  (29, .invokevirtual 299, 3, (179, 1, 1156, .ref 9)),
  (32, .bipush 64, 2, (0, 0, 0, .int 64)),
  (34, .irem, 1, (0, 0, 0, .null)),
  (35, .if_icmp .ne 7, 3, (42, 0, 0, .null)),
  (38, .iconst 1, 1, (0, 0, 0, .int 1)),
  (39, .goto 4, 3, (43, 0, 0, .null)),
  (42, .iconst 0, 1, (0, 0, 0, .int 0)),
  (43, .ireturn, 1, (0, 0, 0, .null))]
abbrev md_184 : am_M := (⟨"BindingServerModel", "sameVariable", "(II)Z"⟩, prog_12_method_55_code, 3, some .boolean, tb_184)
def tb_185 : List am_I := [(0, .aload_n 0, 1, (0, 0, 0, .null)),
  (1, .invokevirtual 305, 3, (136, 0, 924, .ref 9)),
  (4, .aload_n 0, 1, (0, 0, 0, .null)),
  (5, .getfield 141, 3, (9, 5, 794, .null)),
  (8, .ireturn, 1, (0, 0, 0, .null))]
abbrev md_185 : am_M := (⟨"BindingServerModel", "tokens", "()I"⟩, prog_12_method_56_code, 1, some .int, tb_185)
def tb_186 : List am_I := [(0, .aload_n 0, 1, (0, 0, 0, .null)),
  (1, .invokevirtual 305, 3, (136, 0, 924, .ref 9)),
  (4, .iload_n 1, 1, (0, 0, 0, .null)),
  (5, .ifCond .lt 11, 3, (16, 0, 0, .null)),
  (8, .iload_n 1, 1, (0, 0, 0, .null)),
  (9, .aload_n 0, 1, (0, 0, 0, .null)),
  (10, .getfield 141, 3, (9, 5, 794, .null)),
  (13, .if_icmp .lt 7, 3, (20, 0, 0, .null)),
  (16, .iconst (-1), 1, (0, 0, 0, .int (-1))),
  (17, .goto 30, 3, (47, 0, 0, .null)),
  (20, .aload_n 0, 1, (0, 0, 0, .null)),
  (21, .getfield 23, 3, (9, 6, 795, .null)),
  (24, .iload_n 1, 1, (0, 0, 0, .null)),
  (25, .iaload, 1, (0, 0, 0, .null)),
  (26, .bipush 16, 2, (0, 0, 0, .int 16)),
  (28, .aload_n 0, 1, (0, 0, 0, .null)),
  (29, .getfield 26, 3, (9, 7, 796, .null)),
  (32, .iload_n 1, 1, (0, 0, 0, .null)),
  (33, .iaload, 1, (0, 0, 0, .null)),
  (34, .imul, 1, (0, 0, 0, .null)),
  (35, .iadd, 1, (0, 0, 0, .null)),
  (36, .sipush 4096, 3, (0, 0, 0, .int 4096)),
  (39, .aload_n 0, 1, (0, 0, 0, .null)),
  (40, .getfield 29, 3, (9, 8, 797, .null)),
  (43, .iload_n 1, 1, (0, 0, 0, .null)),
  (44, .iaload, 1, (0, 0, 0, .null)),
  (45, .imul, 1, (0, 0, 0, .null)),
  (46, .iadd, 1, (0, 0, 0, .null)),
  (47, .ireturn, 1, (0, 0, 0, .null))]
abbrev md_186 : am_M := (⟨"BindingServerModel", "token", "(I)I"⟩, prog_12_method_57_code, 2, some .int, tb_186)
def tb_187 : List am_I := [(0, .aload_n 0, 1, (0, 0, 0, .null)),
  (1, .invokevirtual 305, 3, (136, 0, 924, .ref 9)),
  (4, .aload_n 0, 1, (0, 0, 0, .null)),
  (5, .getfield 101, 3, (9, 18, 807, .null)),
  (8, .ifCond .eq 10, 3, (18, 0, 0, .null)),
  (11, .aload_n 0, 1, (0, 0, 0, .null)),
  (12, .getfield 101, 3, (9, 18, 807, .null)),
  (15, .goto 7, 3, (22, 0, 0, .null)),
  (18, .aload_n 0, 1, (0, 0, 0, .null)),
  (19, .getfield 274, 3, (9, 34, 823, .null)),
  (22, .ireturn, 1, (0, 0, 0, .null))]
abbrev md_187 : am_M := (⟨"BindingServerModel", "check", "()I"⟩, prog_12_method_58_code, 1, some .int, tb_187)
def tb_188 : List am_I := [(0, .aload_n 0, 1, (0, 0, 0, .null)),
  (1, .invokevirtual 305, 3, (136, 0, 924, .ref 9)),
  (4, .aload_n 0, 1, (0, 0, 0, .null)),
  (5, .getfield 101, 3, (9, 18, 807, .null)),
  (8, .ifCond .eq 15, 3, (23, 0, 0, .null)),
  (11, .aload_n 0, 1, (0, 0, 0, .null)),
  (12, .getfield 26, 3, (9, 7, 796, .null)),
  (15, .aload_n 0, 1, (0, 0, 0, .null)),
  (16, .getfield 182, 3, (9, 19, 808, .null)),
  (19, .iaload, 1, (0, 0, 0, .null)),
  (20, .goto 23, 3, (43, 0, 0, .null)),
  (23, .aload_n 0, 1, (0, 0, 0, .null)),
  (24, .getfield 274, 3, (9, 34, 823, .null)),
  (27, .ifCond .eq 15, 3, (42, 0, 0, .null)),
  (30, .aload_n 0, 1, (0, 0, 0, .null)),
  (31, .getfield 26, 3, (9, 7, 796, .null)),
  (34, .aload_n 0, 1, (0, 0, 0, .null)),
  (35, .getfield 277, 3, (9, 33, 822, .null)),
  (38, .iaload, 1, (0, 0, 0, .null)),
  (39, .goto 4, 3, (43, 0, 0, .null)),
  (42, .iconst (-1), 1, (0, 0, 0, .int (-1))),
  (43, .ireturn, 1, (0, 0, 0, .null))]
abbrev md_188 : am_M := (⟨"BindingServerModel", "place", "()I"⟩, prog_12_method_59_code, 1, some .int, tb_188)
def tb_189 : List am_I := [(0, .aload_n 0, 1, (0, 0, 0, .null)),
  (1, .invokevirtual 305, 3, (136, 0, 924, .ref 9)),
  (4, .iconst (-1), 1, (0, 0, 0, .int (-1))),
  (5, .istore_n 3, 1, (0, 0, 0, .null)),
  (6, .iconst 0, 1, (0, 0, 0, .int 0)),
  (7, .istore 4, 2, (0, 0, 0, .null)),
  (9, .iload 4, 2, (0, 0, 0, .null)),
  (11, .aload_n 0, 1, (0, 0, 0, .null)),
  (12, .getfield 188, 3, (9, 20, 809, .null)),
  (15, .if_icmp .ge 69, 3, (84, 0, 0, .null)),
  (18, .aload_n 0, 1, (0, 0, 0, .null)),
  (19, .getfield 101, 3, (9, 18, 807, .null)),
  (22, .ifCond .ne 62, 3, (84, 0, 0, .null)),
  (25, .aload_n 0, 1, (0, 0, 0, .null)),
  (26, .getfield 47, 3, (9, 21, 810, .null)),
  (29, .iload 4, 2, (0, 0, 0, .null)),
  (31, .iaload, 1, (0, 0, 0, .null)),
  (32, .iload_n 1, 1, (0, 0, 0, .null)),
  (33, .if_icmp .gt 45, 3, (78, 0, 0, .null)),
  (36, .iload_n 1, 1, (0, 0, 0, .null)),
  (37, .aload_n 0, 1, (0, 0, 0, .null)),
  (38, .getfield 50, 3, (9, 22, 811, .null)),
  (41, .iload 4, 2, (0, 0, 0, .null)),
  (43, .iaload, 1, (0, 0, 0, .null)),
  (44, .if_icmp .ge 34, 3, (78, 0, 0, .null)),
  (47, .aload_n 0, 1, (0, 0, 0, .null)),
  (48, .iload 4, 2, (0, 0, 0, .null)),
  (50, .iload_n 1, 1, (0, 0, 0, .null)),
  (51, .invokevirtual 311, 3, (190, 2, 1120, .ref 9)),
  (54, .iload_n 2, 1, (0, 0, 0, .null)),
  (55, .if_icmp .ne 23, 3, (78, 0, 0, .null)),
  (58, .aload_n 0, 1, (0, 0, 0, .null)),
  (59, .getfield 47, 3, (9, 21, 810, .null)),
  (62, .iload 4, 2, (0, 0, 0, .null)),
  (64, .iaload, 1, (0, 0, 0, .null)),
  (65, .sipush 256, 3, (0, 0, 0, .int 256)),
  (68, .aload_n 0, 1, (0, 0, 0, .null)),
  (69, .getfield 50, 3, (9, 22, 811, .null)),
  (72, .iload 4, 2, (0, 0, 0, .null)),
  (74, .iaload, 1, (0, 0, 0, .null)),
  (75, .imul, 1, (0, 0, 0, .null)),
  (76, .iadd, 1, (0, 0, 0, .null)),
  (77, .istore_n 3, 1, (0, 0, 0, .null)),
  (78, .iinc 4 1, 3, (0, 0, 0, .null)),
  (81, .goto (-72), 3, (9, 0, 0, .null)),
  (84, .iload_n 3, 1, (0, 0, 0, .null)),
  (85, .ireturn, 1, (0, 0, 0, .null))]
abbrev md_189 : am_M := (⟨"BindingServerModel", "extent", "(II)I"⟩, prog_12_method_60_code, 5, some .int, tb_189)
def tb_190 : List am_I := [(0, .iconst 0, 1, (0, 0, 0, .int 0)),
  (1, .istore_n 3, 1, (0, 0, 0, .null)),
  (2, .iconst 0, 1, (0, 0, 0, .int 0)),
  (3, .istore 4, 2, (0, 0, 0, .null)),
  (5, .iload 4, 2, (0, 0, 0, .null)),
  (7, .aload_n 0, 1, (0, 0, 0, .null)),
  (8, .getfield 188, 3, (9, 20, 809, .null)),
  (11, .if_icmp .ge 157, 3, (168, 0, 0, .null)),
  (14, .aload_n 0, 1, (0, 0, 0, .null)),
  (15, .getfield 47, 3, (9, 21, 810, .null)),
  (18, .iload 4, 2, (0, 0, 0, .null)),
  (20, .iaload, 1, (0, 0, 0, .null)),
  (21, .iload_n 2, 1, (0, 0, 0, .null)),
  (22, .if_icmp .gt 49, 3, (71, 0, 0, .null)),
  (25, .iload_n 2, 1, (0, 0, 0, .null)),
  (26, .aload_n 0, 1, (0, 0, 0, .null)),
  (27, .getfield 50, 3, (9, 22, 811, .null)),
  (30, .iload 4, 2, (0, 0, 0, .null)),
  (32, .iaload, 1, (0, 0, 0, .null)),
  (33, .if_icmp .ge 38, 3, (71, 0, 0, .null)),
  (36, .aload_n 0, 1, (0, 0, 0, .null)),
  (37, .getfield 50, 3, (9, 22, 811, .null)),
  (40, .iload 4, 2, (0, 0, 0, .null)),
  (42, .iaload, 1, (0, 0, 0, .null)),
  (43, .aload_n 0, 1, (0, 0, 0, .null)),
  (44, .getfield 47, 3, (9, 21, 810, .null)),
  (47, .iload 4, 2, (0, 0, 0, .null)),
  (49, .iaload, 1, (0, 0, 0, .null)),
  (50, .isub, 1, (0, 0, 0, .null)),
  (51, .aload_n 0, 1, (0, 0, 0, .null)),
  (52, .getfield 50, 3, (9, 22, 811, .null)),
  (55, .iload_n 1, 1, (0, 0, 0, .null)),
  (56, .iaload, 1, (0, 0, 0, .null)),
  (57, .aload_n 0, 1, (0, 0, 0, .null)),
  (58, .getfield 47, 3, (9, 21, 810, .null)),
  (61, .iload_n 1, 1, (0, 0, 0, .null)),
  (62, .iaload, 1, (0, 0, 0, .null)),
  (63, .isub, 1, (0, 0, 0, .null)),
  (64, .if_icmp .ge 7, 3, (71, 0, 0, .null)),
  (67, .iconst 1, 1, (0, 0, 0, .int 1)),
  (68, .goto 4, 3, (72, 0, 0, .null)),
  (71, .iconst 0, 1, (0, 0, 0, .int 0)),
  (72, .istore 5, 2, (0, 0, 0, .null)),
  (74, .iconst 0, 1, (0, 0, 0, .int 0)),
  (75, .istore 6, 2, (0, 0, 0, .null)),
  (77, .iconst 0, 1, (0, 0, 0, .int 0)),
  (78, .istore 7, 2, (0, 0, 0, .null)),
  (80, .iload 7, 2, (0, 0, 0, .null)),
  (82, .iload 4, 2, (0, 0, 0, .null)),
  (84, .if_icmp .ge 60, 3, (144, 0, 0, .null)),
  (87, .iload 5, 2, (0, 0, 0, .null)),
  (89, .ifCond .eq 55, 3, (144, 0, 0, .null)),
  (92, .iload 6, 2, (0, 0, 0, .null)),
  (94, .ifCond .ne 50, 3, (144, 0, 0, .null)),
  (97, .aload_n 0, 1, (0, 0, 0, .null)),
  (98, .getfield 47, 3, (9, 21, 810, .null)),
  (101, .iload 7, 2, (0, 0, 0, .null)),
  (103, .iaload, 1, (0, 0, 0, .null)),
  (104, .aload_n 0, 1, (0, 0, 0, .null)),
  (105, .getfield 47, 3, (9, 21, 810, .null)),
  (108, .iload 4, 2, (0, 0, 0, .null)),
  (110, .iaload, 1, (0, 0, 0, .null)),
  (111, .if_icmp .ne 24, 3, (135, 0, 0, .null)),
  (114, .aload_n 0, 1, (0, 0, 0, .null)),
  (115, .getfield 50, 3, (9, 22, 811, .null)),
  (118, .iload 7, 2, (0, 0, 0, .null)),
  (120, .iaload, 1, (0, 0, 0, .null)),
  (121, .aload_n 0, 1, (0, 0, 0, .null)),
  (122, .getfield 50, 3, (9, 22, 811, .null)),
  (125, .iload 4, 2, (0, 0, 0, .null)),
  (127, .iaload, 1, (0, 0, 0, .null)),
  (128, .if_icmp .ne 7, 3, (135, 0, 0, .null)),
  (131, .iconst 1, 1, (0, 0, 0, .int 1)),
  (132, .goto 4, 3, (136, 0, 0, .null)),
  (135, .iconst 0, 1, (0, 0, 0, .int 0)),
  (136, .istore 6, 2, (0, 0, 0, .null)),
  (138, .iinc 7 1, 3, (0, 0, 0, .null)),
  (141, .goto (-61), 3, (80, 0, 0, .null)),
  (144, .iload 5, 2, (0, 0, 0, .null)),
  (146, .ifCond .eq 14, 3, (160, 0, 0, .null)),
  (149, .iload 6, 2, (0, 0, 0, .null)),
  (151, .ifCond .ne 9, 3, (160, 0, 0, .null)),
  (154, .iload_n 3, 1, (0, 0, 0, .null)),
  (155, .iconst 1, 1, (0, 0, 0, .int 1)),
  (156, .iadd, 1, (0, 0, 0, .null)),
  (157, .goto 4, 3, (161, 0, 0, .null)),
  (160, .iload_n 3, 1, (0, 0, 0, .null)),
  (161, .istore_n 3, 1, (0, 0, 0, .null)),
  (162, .iinc 4 1, 3, (0, 0, 0, .null)),
  (165, .goto (-160), 3, (5, 0, 0, .null)),
  (168, .iload_n 3, 1, (0, 0, 0, .null)),
  (169, .ireturn, 1, (0, 0, 0, .null))]
abbrev md_190 : am_M := (⟨"BindingServerModel", "smallerThan", "(II)I"⟩, prog_12_method_61_code, 8, some .int, tb_190)
def tb_191 : List am_I := [(0, .aload_n 0, 1, (0, 0, 0, .null)),
  (1, .invokevirtual 305, 3, (136, 0, 924, .ref 9)),
  (4, .aload_n 0, 1, (0, 0, 0, .null)),
  (5, .getfield 101, 3, (9, 18, 807, .null)),
  (8, .ifCond .eq 7, 3, (15, 0, 0, .null)),
  (11, .iconst (-1), 1, (0, 0, 0, .int (-1))),
  (12, .goto 7, 3, (19, 0, 0, .null)),
  (15, .aload_n 0, 1, (0, 0, 0, .null)),
  (16, .getfield 191, 3, (9, 23, 812, .null)),
  (19, .ireturn, 1, (0, 0, 0, .null))]
abbrev md_191 : am_M := (⟨"BindingServerModel", "scopes", "()I"⟩, prog_12_method_62_code, 1, some .int, tb_191)
def tb_192 : List am_I := [(0, .aload_n 0, 1, (0, 0, 0, .null)),
  (1, .invokevirtual 305, 3, (136, 0, 924, .ref 9)),
  (4, .aload_n 0, 1, (0, 0, 0, .null)),
  (5, .getfield 101, 3, (9, 18, 807, .null)),
  (8, .ifCond .ne 15, 3, (23, 0, 0, .null)),
  (11, .iload_n 1, 1, (0, 0, 0, .null)),
  (12, .ifCond .lt 11, 3, (23, 0, 0, .null)),
  (15, .iload_n 1, 1, (0, 0, 0, .null)),
  (16, .aload_n 0, 1, (0, 0, 0, .null)),
  (17, .getfield 191, 3, (9, 23, 812, .null)),
  (20, .if_icmp .lt 7, 3, (27, 0, 0, .null)),
  (23, .iconst (-1), 1, (0, 0, 0, .int (-1))),
  (24, .goto 18, 3, (42, 0, 0, .null)),
  (27, .aload_n 0, 1, (0, 0, 0, .null)),
  (28, .getfield 53, 3, (9, 24, 813, .null)),
  (31, .iload_n 1, 1, (0, 0, 0, .null)),
  (32, .iaload, 1, (0, 0, 0, .null)),
  (33, .bipush 8, 2, (0, 0, 0, .int 8)),
  (35, .aload_n 0, 1, (0, 0, 0, .null)),
  (36, .iload_n 1, 1, (0, 0, 0, .null)),
  (37, .invokevirtual 258, 3, (167, 1, 1072, .ref 9)),
  (40, .imul, 1, (0, 0, 0, .null)),
  (41, .iadd, 1, (0, 0, 0, .null)),
  (42, .ireturn, 1, (0, 0, 0, .null))]
abbrev md_192 : am_M := (⟨"BindingServerModel", "scope", "(I)I"⟩, prog_12_method_63_code, 2, some .int, tb_192)
def tb_193 : List am_I := [(0, .aload_n 0, 1, (0, 0, 0, .null)),
  (1, .invokevirtual 305, 3, (136, 0, 924, .ref 9)),
  (4, .aload_n 0, 1, (0, 0, 0, .null)),
  (5, .getfield 101, 3, (9, 18, 807, .null)),
  (8, .ifCond .eq 7, 3, (15, 0, 0, .null)),
  (11, .iconst (-1), 1, (0, 0, 0, .int (-1))),
  (12, .goto 7, 3, (19, 0, 0, .null)),
  (15, .aload_n 0, 1, (0, 0, 0, .null)),
  (16, .getfield 261, 3, (9, 31, 820, .null)),
  (19, .ireturn, 1, (0, 0, 0, .null))]
abbrev md_193 : am_M := (⟨"BindingServerModel", "names", "()I"⟩, prog_12_method_64_code, 1, some .int, tb_193)
def tb_194 : List am_I := [(0, .aload_n 0, 1, (0, 0, 0, .null)),
  (1, .invokevirtual 305, 3, (136, 0, 924, .ref 9)),
  (4, .aload_n 0, 1, (0, 0, 0, .null)),
  (5, .getfield 101, 3, (9, 18, 807, .null)),
  (8, .ifCond .ne 15, 3, (23, 0, 0, .null)),
  (11, .iload_n 1, 1, (0, 0, 0, .null)),
  (12, .ifCond .lt 11, 3, (23, 0, 0, .null)),
  (15, .iload_n 1, 1, (0, 0, 0, .null)),
  (16, .aload_n 0, 1, (0, 0, 0, .null)),
  (17, .getfield 261, 3, (9, 31, 820, .null)),
  (20, .if_icmp .lt 7, 3, (27, 0, 0, .null)),
  (23, .iconst (-1), 1, (0, 0, 0, .int (-1))),
  (24, .goto 14, 3, (38, 0, 0, .null)),
  (27, .aload_n 0, 1, (0, 0, 0, .null)),
  (28, .getfield 26, 3, (9, 7, 796, .null)),
  (31, .aload_n 0, 1, (0, 0, 0, .null)),
  (32, .getfield 74, 3, (9, 32, 821, .null)),
  (35, .iload_n 1, 1, (0, 0, 0, .null)),
  (36, .iaload, 1, (0, 0, 0, .null)),
  (37, .iaload, 1, (0, 0, 0, .null)),
  (38, .ireturn, 1, (0, 0, 0, .null))]
abbrev md_194 : am_M := (⟨"BindingServerModel", "name", "(I)I"⟩, prog_12_method_65_code, 2, some .int, tb_194)
def tb_195 : List am_I := [(0, .aload_n 0, 1, (0, 0, 0, .null)),
  (1, .iload_n 1, 1, (0, 0, 0, .null)),
  (2, .invokevirtual 314, 3, (183, 1, 1144, .ref 9)),
  (5, .istore_n 2, 1, (0, 0, 0, .null)),
  (6, .iload_n 2, 1, (0, 0, 0, .null)),
  (7, .ifCond .ge 7, 3, (14, 0, 0, .null)),
  (10, .iconst (-1), 1, (0, 0, 0, .int (-1))),
  (11, .goto 8, 3, (19, 0, 0, .null)),
  (14, .aload_n 0, 1, (0, 0, 0, .null)),
  (15, .iload_n 2, 1, (0, 0, 0, .null)),
  (16, .invokevirtual 317, 3, (181, 1, 1152, .ref 9)),
  (19, .ireturn, 1, (0, 0, 0, .null))]
abbrev md_195 : am_M := (⟨"BindingServerModel", "resolve", "(I)I"⟩, prog_12_method_66_code, 3, some .int, tb_195)
def tb_196 : List am_I := [(0, .aload_n 0, 1, (0, 0, 0, .null)),
  (1, .iload_n 1, 1, (0, 0, 0, .null)),
  (2, .invokevirtual 314, 3, (183, 1, 1144, .ref 9)),
  (5, .istore_n 2, 1, (0, 0, 0, .null)),
  (6, .iconst 0, 1, (0, 0, 0, .int 0)),
  (7, .istore_n 3, 1, (0, 0, 0, .null)),
  (8, .iload_n 3, 1, (0, 0, 0, .null)),
  (9, .aload_n 0, 1, (0, 0, 0, .null)),
  (10, .getfield 261, 3, (9, 31, 820, .null)),
  (13, .if_icmp .ge 42, 3, (55, 0, 0, .null)),
  (16, .iload_n 2, 1, (0, 0, 0, .null)),
  (17, .ifCond .lt 38, 3, (55, 0, 0, .null)),
  (20, .aload_n 0, 1, (0, 0, 0, .null)),
  (21, .iload_n 3, 1, (0, 0, 0, .null)),
  (22, .invokevirtual 296, 3, (171, 1, 1164, .ref 9)),
  (25, .ifCond .eq 24, 3, (49, 0, 0, .null)),
  (28, .aload_n 0, 1, (0, 0, 0, .null)),
  (29, .iload_n 2, 1, (0, 0, 0, .null)),
  (30, .iload_n 3, 1, (0, 0, 0, .null)),
  (31, .invokevirtual 320, 3, (184, 2, 1172, .ref 9)),
  (34, .ifCond .eq 15, 3, (49, 0, 0, .null)),
  (37, .aload_n 0, 1, (0, 0, 0, .null)),
  (38, .getfield 26, 3, (9, 7, 796, .null)),
  (41, .aload_n 0, 1, (0, 0, 0, .null)),
  (42, .getfield 74, 3, (9, 32, 821, .null)),
  (45, .iload_n 3, 1, (0, 0, 0, .null)),
  (46, .iaload, 1, (0, 0, 0, .null)),
  (47, .iaload, 1, (0, 0, 0, .null)),
  (48, .ireturn, 1, (0, 0, 0, .null)),
  (49, .iinc 3 1, 3, (0, 0, 0, .null)),
  (52, .goto (-44), 3, (8, 0, 0, .null)),
  (55, .iconst (-1), 1, (0, 0, 0, .int (-1))),
  (56, .ireturn, 1, (0, 0, 0, .null))]
abbrev md_196 : am_M := (⟨"BindingServerModel", "definition", "(I)I"⟩, prog_12_method_67_code, 4, some .int, tb_196)
def tb_197 : List am_I := [(0, .aload_n 0, 1, (0, 0, 0, .null)),
  (1, .iload_n 1, 1, (0, 0, 0, .null)),
  (2, .invokevirtual 314, 3, (183, 1, 1144, .ref 9)),
  (5, .istore_n 3, 1, (0, 0, 0, .null)),
  (6, .iconst 0, 1, (0, 0, 0, .int 0)),
  (7, .istore 4, 2, (0, 0, 0, .null)),
  (9, .iconst 0, 1, (0, 0, 0, .int 0)),
  (10, .istore 5, 2, (0, 0, 0, .null)),
  (12, .iload 5, 2, (0, 0, 0, .null)),
  (14, .aload_n 0, 1, (0, 0, 0, .null)),
  (15, .getfield 261, 3, (9, 31, 820, .null)),
  (18, .if_icmp .ge 45, 3, (63, 0, 0, .null)),
  (21, .iload_n 3, 1, (0, 0, 0, .null)),
  (22, .ifCond .lt 41, 3, (63, 0, 0, .null)),
  (25, .aload_n 0, 1, (0, 0, 0, .null)),
  (26, .iload_n 3, 1, (0, 0, 0, .null)),
  (27, .iload 5, 2, (0, 0, 0, .null)),
  (29, .invokevirtual 320, 3, (184, 2, 1172, .ref 9)),
  (32, .ifCond .eq 25, 3, (57, 0, 0, .null)),
  (35, .iload 4, 2, (0, 0, 0, .null)),
  (37, .iload_n 2, 1, (0, 0, 0, .null)),
  (38, .if_icmp .ne 16, 3, (54, 0, 0, .null)),
  (41, .aload_n 0, 1, (0, 0, 0, .null)),
  (42, .getfield 26, 3, (9, 7, 796, .null)),
  (45, .aload_n 0, 1, (0, 0, 0, .null)),
  (46, .getfield 74, 3, (9, 32, 821, .null)),
  (49, .iload 5, 2, (0, 0, 0, .null)),
  (51, .iaload, 1, (0, 0, 0, .null)),
  (52, .iaload, 1, (0, 0, 0, .null)),
  (53, .ireturn, 1, (0, 0, 0, .null)),
  (54, .iinc 4 1, 3, (0, 0, 0, .null)),
  (57, .iinc 5 1, 3, (0, 0, 0, .null)),
  (60, .goto (-48), 3, (12, 0, 0, .null)),
  (63, .iconst (-1), 1, (0, 0, 0, .int (-1))),
  (64, .ireturn, 1, (0, 0, 0, .null))]
abbrev md_197 : am_M := (⟨"BindingServerModel", "reference", "(II)I"⟩, prog_12_method_68_code, 6, some .int, tb_197)
def tb_198 : List am_I := [(0, .iconst 0, 1, (0, 0, 0, .int 0)),
  (1, .istore_n 2, 1, (0, 0, 0, .null)),
  (2, .lconst 0, 1, (0, 0, 0, .long 0)),
  (3, .lstore_n 3, 1, (0, 0, 0, .null)),
  (4, .iconst 1, 1, (0, 0, 0, .int 1)),
  (5, .istore 5, 2, (0, 0, 0, .null)),
  (7, .bipush 56, 2, (0, 0, 0, .int 56)),
  (9, .istore 6, 2, (0, 0, 0, .null)),
  (11, .iload 6, 2, (0, 0, 0, .null)),
  (13, .ifCond .lt 70, 3, (83, 0, 0, .null)),
  (16, .lload_n 0, 1, (0, 0, 0, .null)),
  (17, .iload 6, 2, (0, 0, 0, .null)),
  (19, .lushr, 1, (0, 0, 0, .null)),
  (20, .l2i, 1, (0, 0, 0, .null)),
  (21, .sipush 255, 3, (0, 0, 0, .int 255)),
  (24, .iand, 1, (0, 0, 0, .null)),
  (25, .istore 7, 2, (0, 0, 0, .null)),
  (27, .iload 7, 2, (0, 0, 0, .null)),
  (29, .ifCond .eq 48, 3, (77, 0, 0, .null)),
  (32, .iload 5, 2, (0, 0, 0, .null)),
  (34, .ifCond .eq 27, 3, (61, 0, 0, .null)),
  (37, .iload 7, 2, (0, 0, 0, .null)),
  (39, .invokestatic 160, 3, (138, 1, 948, .null)),
  (42, .ifCond .ne 15, 3, (57, 0, 0, .null)),
  (45, .iload_n 2, 1, (0, 0, 0, .null)),
  (46, .ifCond .le 15, 3, (61, 0, 0, .null)),
  (49, .iload 7, 2, (0, 0, 0, .null)),
  (51, .invokestatic 163, 3, (137, 1, 951, .null)),
  (54, .ifCond .eq 7, 3, (61, 0, 0, .null)),
  (57, .iconst 1, 1, (0, 0, 0, .int 1)),
  (58, .goto 4, 3, (62, 0, 0, .null)),
  (61, .iconst 0, 1, (0, 0, 0, .int 0)),
  (62, .istore 5, 2, (0, 0, 0, .null)),
  (64, .lload_n 3, 1, (0, 0, 0, .null)),
  (65, .ldc2_w 166, 3, (0, 0, 954, .long 256)),
  (68, .lmul, 1, (0, 0, 0, .null)),
  (69, .iload 7, 2, (0, 0, 0, .null)),
  (71, .i2l, 1, (0, 0, 0, .null)),
  (72, .ladd, 1, (0, 0, 0, .null)),
  (73, .lstore_n 3, 1, (0, 0, 0, .null)),
  (74, .iinc 2 1, 3, (0, 0, 0, .null)),
  (77, .iinc 6 (-8), 3, (0, 0, 0, .null)),
  (80, .goto (-69), 3, (11, 0, 0, .null)),
  (83, .iload 5, 2, (0, 0, 0, .null)),
  (85, .ifCond .eq 14, 3, (99, 0, 0, .null)),
  (88, .lload_n 3, 1, (0, 0, 0, .null)),
  (89, .invokestatic 168, 3, (139, 1, 955, .null)),
  (92, .ifCond .ne 7, 3, (99, 0, 0, .null)),
  (95, .iload_n 2, 1, (0, 0, 0, .null)),
  (96, .goto 4, 3, (100, 0, 0, .null)),
  (99, .iconst 0, 1, (0, 0, 0, .int 0)),
  (100, .ireturn, 1, (0, 0, 0, .null))]
abbrev md_198 : am_M := (⟨"BindingServerModel", "nameLength", "(J)I"⟩, prog_12_method_69_code, 8, some .int, tb_198)
def tb_199 : List am_I := [(0, .iconst 1, 1, (0, 0, 0, .int 1)),
  (1, .istore_n 2, 1, (0, 0, 0, .null)),
  (2, .iconst 0, 1, (0, 0, 0, .int 0)),
  (3, .istore_n 3, 1, (0, 0, 0, .null)),
  (4, .iload_n 3, 1, (0, 0, 0, .null)),
  (5, .aload_n 0, 1, (0, 0, 0, .null)),
  (6, .getfield 261, 3, (9, 31, 820, .null)),
  (9, .if_icmp .ge 132, 3, (141, 0, 0, .null)),
  (12, .aload_n 0, 1, (0, 0, 0, .null)),
  (13, .iload_n 3, 1, (0, 0, 0, .null)),
  (14, .invokevirtual 317, 3, (181, 1, 1152, .ref 9)),
  (17, .istore 4, 2, (0, 0, 0, .null)),
  (19, .iload_n 3, 1, (0, 0, 0, .null)),
  (20, .istore 5, 2, (0, 0, 0, .null)),
  (22, .iload_n 3, 1, (0, 0, 0, .null)),
  (23, .iconst 1, 1, (0, 0, 0, .int 1)),
  (24, .isub, 1, (0, 0, 0, .null)),
  (25, .istore 6, 2, (0, 0, 0, .null)),
  (27, .iload 6, 2, (0, 0, 0, .null)),
  (29, .ifCond .lt 28, 3, (57, 0, 0, .null)),
  (32, .aload_n 0, 1, (0, 0, 0, .null)),
  (33, .iload_n 3, 1, (0, 0, 0, .null)),
  (34, .iload 6, 2, (0, 0, 0, .null)),
  (36, .invokevirtual 320, 3, (184, 2, 1172, .ref 9)),
  (39, .ifCond .eq 8, 3, (47, 0, 0, .null)),
  (42, .iload 6, 2, (0, 0, 0, .null)),
  (44, .goto 5, 3, (49, 0, 0, .null)),
  (47, .iload 5, 2, (0, 0, 0, .null)),
  (49, .istore 5, 2, (0, 0, 0, .null)),
  (51, .iinc 6 (-1), 3, (0, 0, 0, .null)),
  (54, .goto (-27), 3, (27, 0, 0, .null)),
  (57, .iload_n 2, 1, (0, 0, 0, .null)),
  (58, .ifCond .eq 33, 3, (91, 0, 0, .null)),
  (61, .iload_n 1, 1, (0, 0, 0, .null)),
  (62, .ifCond .eq 25, 3, (87, 0, 0, .null)),
  (65, .aload_n 0, 1, (0, 0, 0, .null)),
  (66, .getfield 77, 3, (9, 35, 824, .null)),
  (69, .iload_n 3, 1, (0, 0, 0, .null)),
  (70, .iaload, 1, (0, 0, 0, .null)),
  (71, .iload 4, 2, (0, 0, 0, .null)),
  (73, .if_icmp .ne 18, 3, (91, 0, 0, .null)),
  (76, .aload_n 0, 1, (0, 0, 0, .null)),
  (77, .getfield 80, 3, (9, 36, 825, .null)),
  (80, .iload_n 3, 1, (0, 0, 0, .null)),
  (81, .iaload, 1, (0, 0, 0, .null)),
  (82, .iload 5, 2, (0, 0, 0, .null)),
  (84, .if_icmp .ne 7, 3, (91, 0, 0, .null)),
  (87, .iconst 1, 1, (0, 0, 0, .int 1)),
  (88, .goto 4, 3, (92, 0, 0, .null)),
  (91, .iconst 0, 1, (0, 0, 0, .int 0)),
  (92, .istore_n 2, 1, (0, 0, 0, .null)),
  (93, .aload_n 0, 1, (0, 0, 0, .null)),
  (94, .getfield 77, 3, (9, 35, 824, .null)),
  (97, .iload_n 3, 1, (0, 0, 0, .null)),
  (98, .iload_n 1, 1, (0, 0, 0, .null)),
  (99, .ifCond .eq 12, 3, (111, 0, 0, .null)),
  (102, .aload_n 0, 1, (0, 0, 0, .null)),
  (103, .getfield 77, 3, (9, 35, 824, .null)),
  (106, .iload_n 3, 1, (0, 0, 0, .null)),
  (107, .iaload, 1, (0, 0, 0, .null)),
  (108, .goto 5, 3, (113, 0, 0, .null)),
  (111, .iload 4, 2, (0, 0, 0, .null)),
  (113, .iastore, 1, (0, 0, 0, .null)),
  (114, .aload_n 0, 1, (0, 0, 0, .null)),
  (115, .getfield 80, 3, (9, 36, 825, .null)),
  (118, .iload_n 3, 1, (0, 0, 0, .null)),
  (119, .iload_n 1, 1, (0, 0, 0, .null)),
  (120, .ifCond .eq 12, 3, (132, 0, 0, .null)),
  (123, .aload_n 0, 1, (0, 0, 0, .null)),
  (124, .getfield 80, 3, (9, 36, 825, .null)),
  (127, .iload_n 3, 1, (0, 0, 0, .null)),
  (128, .iaload, 1, (0, 0, 0, .null)),
  (129, .goto 5, 3, (134, 0, 0, .null)),
  (132, .iload 5, 2, (0, 0, 0, .null)),
  (134, .iastore, 1, (0, 0, 0, .null)),
  (135, .iinc 3 1, 3, (0, 0, 0, .null)),
  (138, .goto (-134), 3, (4, 0, 0, .null)),
  (141, .iload_n 2, 1, (0, 0, 0, .null)),
  (142, .ireturn, 1, (0, 0, 0, .null))]
abbrev md_199 : am_M := (⟨"BindingServerModel", "noted", "(Z)Z"⟩, prog_12_method_70_code, 7, some .boolean, tb_199)
def tb_200 : List am_I := [(0, .aload_n 0, 1, (0, 0, 0, .null)),
  (1, .iload_n 1, 1, (0, 0, 0, .null)),
  (2, .invokevirtual 314, 3, (183, 1, 1144, .ref 9)),
  (5, .istore 4, 2, (0, 0, 0, .null)),
  (7, .lload_n 2, 1, (0, 0, 0, .null)),
  (8, .invokestatic 323, 3, (198, 1, 1184, .null)),
  (11, .istore 5, 2, (0, 0, 0, .null)),
  (13, .iload 4, 2, (0, 0, 0, .null)),
  (15, .ifCond .lt 8, 3, (23, 0, 0, .null)),
  (18, .iload 5, 2, (0, 0, 0, .null)),
  (20, .ifCond .ne 5, 3, (25, 0, 0, .null)),
  (23, .iconst (-1), 1, (0, 0, 0, .int (-1))),
  (24, .ireturn, 1, (0, 0, 0, .null)),
  (25, .aload_n 0, 1, (0, 0, 0, .null)),
  (26, .iload 4, 2, (0, 0, 0, .null)),
  (28, .invokevirtual 317, 3, (181, 1, 1152, .ref 9)),
  (31, .bipush 8, 2, (0, 0, 0, .int 8)),
  (33, .irem, 1, (0, 0, 0, .null)),
  (34, .bipush 6, 2, (0, 0, 0, .int 6)),
  (36, .if_icmp .ne 6, 3, (42, 0, 0, .null)),
  (39, .bipush (-3), 2, (0, 0, 0, .int (-3))),
  (41, .ireturn, 1, (0, 0, 0, .null)),
  (42, .iconst 0, 1, (0, 0, 0, .int 0)),
  (43, .istore 6, 2, (0, 0, 0, .null)),
  (45, .aload_n 0, 1, (0, 0, 0, .null)),
  (46, .getfield 29, 3, (9, 8, 797, .null)),
  (49, .aload_n 0, 1, (0, 0, 0, .null)),
  (50, .getfield 74, 3, (9, 32, 821, .null)),
  (53, .iload 4, 2, (0, 0, 0, .null)),
  (55, .iaload, 1, (0, 0, 0, .null)),
  (56, .iaload, 1, (0, 0, 0, .null)),
  (57, .aload_n 0, 1, (0, 0, 0, .null)),
  (58, .getfield 26, 3, (9, 7, 796, .null)),
  (61, .aload_n 0, 1, (0, 0, 0, .null)),
  (62, .getfield 74, 3, (9, 32, 821, .null)),
  (65, .iload 4, 2, (0, 0, 0, .null)),
  (67, .iaload, 1, (0, 0, 0, .null)),
  (68, .iaload, 1, (0, 0, 0, .null)),
  (69, .isub, 1, (0, 0, 0, .null)),
  (70, .istore 7, 2, (0, 0, 0, .null)),
  (72, .aload_n 0, 1, (0, 0, 0, .null)),
  (73, .iconst 0, 1, (0, 0, 0, .int 0)),
  (74, .invokevirtual 326, 3, (199, 1, 1187, .ref 9)),
  (77, .pop, 1, (0, 0, 0, .null)),
  (78, .iconst 0, 1, (0, 0, 0, .int 0)),
  (79, .istore 8, 2, (0, 0, 0, .null)),
  (81, .iload 8, 2, (0, 0, 0, .null)),
  (83, .aload_n 0, 1, (0, 0, 0, .null)),
  (84, .getfield 261, 3, (9, 31, 820, .null)),
  (87, .if_icmp .ge 37, 3, (124, 0, 0, .null)),
  (90, .aload_n 0, 1, (0, 0, 0, .null)),
  (91, .getfield 80, 3, (9, 36, 825, .null)),
  (94, .iload 8, 2, (0, 0, 0, .null)),
  (96, .iaload, 1, (0, 0, 0, .null)),
  (97, .aload_n 0, 1, (0, 0, 0, .null)),
  (98, .getfield 80, 3, (9, 36, 825, .null)),
  (101, .iload 4, 2, (0, 0, 0, .null)),
  (103, .iaload, 1, (0, 0, 0, .null)),
  (104, .if_icmp .ne 10, 3, (114, 0, 0, .null)),
  (107, .iload 6, 2, (0, 0, 0, .null)),
  (109, .iconst 1, 1, (0, 0, 0, .int 1)),
  (110, .iadd, 1, (0, 0, 0, .null)),
  (111, .goto 5, 3, (116, 0, 0, .null)),
  (114, .iload 6, 2, (0, 0, 0, .null)),
  (116, .istore 6, 2, (0, 0, 0, .null)),
  (118, .iinc 8 1, 3, (0, 0, 0, .null)),
  (121, .goto (-40), 3, (81, 0, 0, .null)),
  (124, .aload_n 0, 1, (0, 0, 0, .null)),
  (125, .getfield 83, 3, (9, 0, 789, .null)),
  (128, .iload 6, 2, (0, 0, 0, .null)),
  (130, .iload 5, 2, (0, 0, 0, .null)),
  (132, .iload 7, 2, (0, 0, 0, .null)),
  (134, .isub, 1, (0, 0, 0, .null)),
  (135, .imul, 1, (0, 0, 0, .null)),
  (136, .iadd, 1, (0, 0, 0, .null)),
  (137, .sipush 200, 3, (0, 0, 0, .int 200)),
  (140, .if_icmp .le 6, 3, (146, 0, 0, .null)),
  (143, .bipush (-2), 2, (0, 0, 0, .int (-2))),
  (145, .ireturn, 1, (0, 0, 0, .null)),
  (146, .aload_n 0, 1, (0, 0, 0, .null)),
  (147, .iload 4, 2, (0, 0, 0, .null)),
  (149, .iload 7, 2, (0, 0, 0, .null)),
  (151, .iload 5, 2, (0, 0, 0, .null)),
  (153, .lload_n 2, 1, (0, 0, 0, .null)),
  (154, .invokevirtual 330, 3, (201, 4, 1191, .ref 9)),
  (157, .ifCond .eq 8, 3, (165, 0, 0, .null)),
  (160, .iload 6, 2, (0, 0, 0, .null)),
  (162, .goto 5, 3, (167, 0, 0, .null)),
  (165, .bipush (-4), 2, (0, 0, 0, .int (-4))),
  (167, .ireturn, 1, (0, 0, 0, .null))]
abbrev md_200 : am_M := (⟨"BindingServerModel", "rename", "(IJ)I"⟩, prog_12_method_71_code, 9, some .int, tb_200)
def tb_201 : List am_I := [(0, .aload_n 0, 1, (0, 0, 0, .null)),
  (1, .getfield 83, 3, (9, 0, 789, .null)),
  (4, .istore 6, 2, (0, 0, 0, .null)),
  (6, .aload_n 0, 1, (0, 0, 0, .null)),
  (7, .getfield 261, 3, (9, 31, 820, .null)),
  (10, .istore 7, 2, (0, 0, 0, .null)),
  (12, .iconst 0, 1, (0, 0, 0, .int 0)),
  (13, .istore 8, 2, (0, 0, 0, .null)),
  (15, .iload 8, 2, (0, 0, 0, .null)),
  (17, .aload_n 0, 1, (0, 0, 0, .null)),
  (18, .getfield 83, 3, (9, 0, 789, .null)),
  (21, .if_icmp .ge 23, 3, (44, 0, 0, .null)),
  (24, .aload_n 0, 1, (0, 0, 0, .null)),
  (25, .getfield 16, 3, (9, 3, 792, .null)),
  (28, .iload 8, 2, (0, 0, 0, .null)),
  (30, .aload_n 0, 1, (0, 0, 0, .null)),
  (31, .getfield 7, 3, (9, 1, 790, .null)),
  (34, .iload 8, 2, (0, 0, 0, .null)),
  (36, .iaload, 1, (0, 0, 0, .null)),
  (37, .iastore, 1, (0, 0, 0, .null)),
  (38, .iinc 8 1, 3, (0, 0, 0, .null)),
  (41, .goto (-26), 3, (15, 0, 0, .null)),
  (44, .aload_n 0, 1, (0, 0, 0, .null)),
  (45, .getfield 80, 3, (9, 36, 825, .null)),
  (48, .iload_n 1, 1, (0, 0, 0, .null)),
  (49, .iaload, 1, (0, 0, 0, .null)),
  (50, .istore 8, 2, (0, 0, 0, .null)),
  (52, .iload 7, 2, (0, 0, 0, .null)),
  (54, .iconst 1, 1, (0, 0, 0, .int 1)),
  (55, .isub, 1, (0, 0, 0, .null)),
  (56, .istore 9, 2, (0, 0, 0, .null)),
  (58, .iload 9, 2, (0, 0, 0, .null)),
  (60, .ifCond .lt 41, 3, (101, 0, 0, .null)),
  (63, .aload_n 0, 1, (0, 0, 0, .null)),
  (64, .getfield 80, 3, (9, 36, 825, .null)),
  (67, .iload 9, 2, (0, 0, 0, .null)),
  (69, .iaload, 1, (0, 0, 0, .null)),
  (70, .iload 8, 2, (0, 0, 0, .null)),
  (72, .if_icmp .ne 23, 3, (95, 0, 0, .null)),
  (75, .aload_n 0, 1, (0, 0, 0, .null)),
  (76, .aload_n 0, 1, (0, 0, 0, .null)),
  (77, .getfield 26, 3, (9, 7, 796, .null)),
  (80, .aload_n 0, 1, (0, 0, 0, .null)),
  (81, .getfield 74, 3, (9, 32, 821, .null)),
  (84, .iload 9, 2, (0, 0, 0, .null)),
  (86, .iaload, 1, (0, 0, 0, .null)),
  (87, .iaload, 1, (0, 0, 0, .null)),
  (88, .iload_n 2, 1, (0, 0, 0, .null)),
  (89, .iload_n 3, 1, (0, 0, 0, .null)),
  (90, .lload 4, 2, (0, 0, 0, .null)),
  (92, .invokevirtual 91, 3, (133, 4, 908, .ref 9)),
  (95, .iinc 9 (-1), 3, (0, 0, 0, .null)),
  (98, .goto (-40), 3, (58, 0, 0, .null)),
  (101, .aload_n 0, 1, (0, 0, 0, .null)),
  (102, .invokevirtual 308, 3, (182, 0, 1148, .ref 9)),
  (105, .ifCond .eq 22, 3, (127, 0, 0, .null)),
  (108, .aload_n 0, 1, (0, 0, 0, .null)),
  (109, .getfield 261, 3, (9, 31, 820, .null)),
  (112, .iload 7, 2, (0, 0, 0, .null)),
  (114, .if_icmp .ne 13, 3, (127, 0, 0, .null)),
  (117, .aload_n 0, 1, (0, 0, 0, .null)),
  (118, .iconst 1, 1, (0, 0, 0, .int 1)),
  (119, .invokevirtual 326, 3, (199, 1, 1187, .ref 9)),
  (122, .ifCond .eq 5, 3, (127, 0, 0, .null)),
  (125, .iconst 1, 1, (0, 0, 0, .int 1)),
  (126, .ireturn, 1, (0, 0, 0, .null)),
  (127, .aload_n 0, 1, (0, 0, 0, .null)),
  (128, .iload 6, 2, (0, 0, 0, .null)),
  (130, .putfield 83, 3, (9, 0, 789, .null)),
  (133, .iconst 0, 1, (0, 0, 0, .int 0)),
  (134, .istore 9, 2, (0, 0, 0, .null)),
  (136, .iload 9, 2, (0, 0, 0, .null)),
  (138, .aload_n 0, 1, (0, 0, 0, .null)),
  (139, .getfield 83, 3, (9, 0, 789, .null)),
  (142, .if_icmp .ge 23, 3, (165, 0, 0, .null)),
  (145, .aload_n 0, 1, (0, 0, 0, .null)),
  (146, .getfield 7, 3, (9, 1, 790, .null)),
  (149, .iload 9, 2, (0, 0, 0, .null)),
  (151, .aload_n 0, 1, (0, 0, 0, .null)),
  (152, .getfield 16, 3, (9, 3, 792, .null)),
  (155, .iload 9, 2, (0, 0, 0, .null)),
  (157, .iaload, 1, (0, 0, 0, .null)),
  (158, .iastore, 1, (0, 0, 0, .null)),
  (159, .iinc 9 1, 3, (0, 0, 0, .null)),
  (162, .goto (-26), 3, (136, 0, 0, .null)),
  (165, .aload_n 0, 1, (0, 0, 0, .null)),
  (166, .iconst 1, 1, (0, 0, 0, .int 1)),
  (167, .putfield 19, 3, (9, 4, 793, .null)),
  (170, .iconst 0, 1, (0, 0, 0, .int 0)),
  (171, .ireturn, 1, (0, 0, 0, .null))]
abbrev md_201 : am_M := (⟨"BindingServerModel", "renamed", "(IIIJ)Z"⟩, prog_12_method_72_code, 10, some .boolean, tb_201)
def am_P : List am_M := [md_0, md_1, md_2, md_3, md_4, md_5, md_6, md_7, md_8, md_9, md_10, md_11, md_12, md_13, md_14, md_15, md_16, md_17, md_18, md_19, md_20, md_21, md_22, md_23, md_24, md_25, md_26, md_27, md_28, md_29, md_30, md_31, md_32, md_33, md_34, md_35, md_36, md_37, md_38, md_39, md_40, md_41, md_42, md_43, md_44, md_45, md_46, md_47, md_48, md_49, md_50, md_51, md_52, md_53, md_54, md_55, md_56, md_57, md_58, md_59, md_60, md_61, md_62, md_63, md_64, md_65, md_66, md_67, md_68, md_69, md_70, md_71, md_72, md_73, md_74, md_75, md_76, md_77, md_78, md_79, md_80, md_81, md_82, md_83, md_84, md_85, md_86, md_87, md_88, md_89, md_90, md_91, md_92, md_93, md_94, md_95, md_96, md_97, md_98, md_99, md_100, md_101, md_102, md_103, md_104, md_105, md_106, md_107, md_108, md_109, md_110, md_111, md_112, md_113, md_114, md_115, md_116, md_117, md_118, md_119, md_120, md_121, md_122, md_123, md_124, md_125, md_126, md_127, md_128, md_129, md_130, md_131, md_132, md_133, md_134, md_135, md_136, md_137, md_138, md_139, md_140, md_141, md_142, md_143, md_144, md_145, md_146, md_147, md_148, md_149, md_150, md_151, md_152, md_153, md_154, md_155, md_156, md_157, md_158, md_159, md_160, md_161, md_162, md_163, md_164, md_165, md_166, md_167, md_168, md_169, md_170, md_171, md_172, md_173, md_174, md_175, md_176, md_177, md_178, md_179, md_180, md_181, md_182, md_183, md_184, md_185, md_186, md_187, md_188, md_189, md_190, md_191, md_192, md_193, md_194, md_195, md_196, md_197, md_198, md_199, md_200, md_201]
def am_K : List Nat := [1, 2, 0, 0, 0, 0, 0, 0, 0, 0, 0, 0, 1, 0, 0, 0, 0, 0, 0, 1, 1, 1, 1, 2, 0, 0, 0, 0, 2, 0, 0, 0, 0, 0, 0, 0, 0, 0, 0, 2, 0, 0, 0, 0, 0, 0, 0, 0, 0, 0, 0, 0, 0, 0, 0, 0, 0, 0, 0, 0, 0, 0, 0, 0, 0, 0, 0, 0, 2, 0, 0, 0, 0, 0, 0, 0, 2, 0, 0, 0, 2, 1, 1, 1, 1, 0, 0, 0, 0, 0, 0, 0, 2, 1, 0, 0, 0, 0, 0, 0, 0, 0, 0, 0, 1, 0, 0, 0, 2, 0, 0, 0, 0, 0, 0, 0, 0, 0, 0, 0, 0, 0, 0, 0, 0, 0, 0, 0, 0, 0, 2, 1, 0, 0, 0, 0, 0, 1, 1, 1, 0, 0, 0, 0, 0, 0, 0, 0, 0, 0, 0, 0, 0, 0, 0, 0, 0, 0, 0, 0, 0, 0, 0, 0, 0, 0, 0, 0, 0, 0, 0, 0, 0, 0, 0, 0, 0, 0, 0, 0, 0, 0, 0, 0, 0, 0, 0, 0, 0, 0, 0, 0, 0, 0, 0, 0, 0, 0, 1, 0, 0, 0]
abbrev am_CX (xs : Option (List Int32)) : am_C := (am_P, am_cl, am_ty, xs, am_wd)
abbrev am_C0 : am_C := (am_P, am_cl, am_ty, none, am_wd)
end
section
def am_GG : List Cond := lw_tbl.filter goodWord
theorem am_tin {w : Cond} (i : Nat) (h : tables_1[i]? = some w) (hg : goodWord w = true) : w ∈ am_GG := List.mem_filter.mpr ⟨List.mem_append_right _ (List.mem_of_getElem? h), hg⟩
theorem am_sin {w : Cond} (i : Nat) (h : (k2_sels lw_privs)[i]? = some w) (hg : goodWord w = true) : w ∈ am_GG := List.mem_filter.mpr ⟨List.mem_append_left _ (List.mem_of_getElem? h), hg⟩
theorem am_tall : ∀ w ∈ tables_1, goodWord w = true → w ∈ am_GG := fun _ h hg => List.mem_filter.mpr ⟨List.mem_append_right _ h, hg⟩
theorem ki_1 : am_ki am_GG md_1 2 := am_tin 213 (by decide +kernel) rfl
theorem ki_2 : am_ki am_GG md_2 0 := ⟨am_tin 559 (by decide +kernel) rfl, am_tin 560 (by decide +kernel) rfl⟩
theorem ki_3 : am_ki am_GG md_3 0 := ⟨am_tin 564 (by decide +kernel) rfl, am_sin 36 (by decide +kernel) rfl⟩
theorem ki_4 : am_ki am_GG md_4 0 := ⟨am_tin 568 (by decide +kernel) rfl, am_sin 37 (by decide +kernel) rfl⟩
theorem ki_5 : am_ki am_GG md_5 0 := ⟨am_tin 580 (by decide +kernel) rfl, am_sin 38 (by decide +kernel) rfl⟩
theorem ki_6 : am_ki am_GG md_6 0 := ⟨am_tin 584 (by decide +kernel) rfl, am_sin 39 (by decide +kernel) rfl⟩
theorem ki_7 : am_ki am_GG md_7 0 := ⟨am_tin 592 (by decide +kernel) rfl, am_sin 40 (by decide +kernel) rfl⟩
theorem ki_8 : am_ki am_GG md_8 0 := ⟨am_tin 600 (by decide +kernel) rfl, am_sin 41 (by decide +kernel) rfl⟩
theorem ki_9 : am_ki am_GG md_9 0 := ⟨am_tin 616 (by decide +kernel) rfl, am_sin 43 (by decide +kernel) rfl⟩
theorem ki_10 : am_ki am_GG md_10 0 := ⟨am_tin 620 (by decide +kernel) rfl, am_sin 44 (by decide +kernel) rfl⟩
theorem ki_11 : am_ki am_GG md_11 0 := ⟨am_tin 604 (by decide +kernel) rfl, am_sin 42 (by decide +kernel) rfl⟩
theorem ki_12 : am_ki am_GG md_12 1 := am_tin 612 (by decide +kernel) rfl
theorem ki_13 : am_ki am_GG md_13 0 := ⟨am_tin 628 (by decide +kernel) rfl, am_sin 45 (by decide +kernel) rfl⟩
theorem ki_14 : am_ki am_GG md_14 0 := ⟨am_tin 632 (by decide +kernel) rfl, am_sin 46 (by decide +kernel) rfl⟩
theorem ki_15 : am_ki am_GG md_15 0 := ⟨am_tin 636 (by decide +kernel) rfl, am_sin 47 (by decide +kernel) rfl⟩
theorem ki_16 : am_ki am_GG md_16 0 := ⟨am_tin 645 (by decide +kernel) rfl, am_sin 48 (by decide +kernel) rfl⟩
theorem ki_17 : am_ki am_GG md_17 0 := ⟨am_tin 649 (by decide +kernel) rfl, am_sin 49 (by decide +kernel) rfl⟩
theorem ki_18 : am_ki am_GG md_18 0 := ⟨am_tin 653 (by decide +kernel) rfl, am_sin 50 (by decide +kernel) rfl⟩
theorem ki_19 : am_ki am_GG md_19 1 := am_tin 292 (by decide +kernel) rfl
theorem ki_20 : am_ki am_GG md_20 1 := am_tin 298 (by decide +kernel) rfl
theorem ki_21 : am_ki am_GG md_21 1 := am_tin 289 (by decide +kernel) rfl
theorem ki_22 : am_ki am_GG md_22 1 := am_tin 750 (by decide +kernel) rfl
theorem ki_23 : am_ki am_GG md_23 2 := am_tin 80 (by decide +kernel) rfl
theorem ki_24 : am_ki am_GG md_24 0 := ⟨am_tin 495 (by decide +kernel) rfl, am_tin 496 (by decide +kernel) rfl⟩
theorem ki_25 : am_ki am_GG md_25 0 := ⟨am_tin 686 (by decide +kernel) rfl, am_tin 687 (by decide +kernel) rfl⟩
theorem ki_26 : am_ki am_GG md_26 0 := ⟨am_tin 695 (by decide +kernel) rfl, am_sin 52 (by decide +kernel) rfl⟩
theorem ki_27 : am_ki am_GG md_27 0 := ⟨am_tin 691 (by decide +kernel) rfl, am_sin 51 (by decide +kernel) rfl⟩
theorem ki_28 : am_ki am_GG md_28 2 := am_tin 118 (by decide +kernel) rfl
theorem ki_29 : am_ki am_GG md_29 0 := ⟨am_tin 454 (by decide +kernel) rfl, am_tin 455 (by decide +kernel) rfl⟩
theorem ki_30 : am_ki am_GG md_30 0 := ⟨am_tin 728 (by decide +kernel) rfl, am_tin 729 (by decide +kernel) rfl⟩
theorem ki_31 : am_ki am_GG md_31 0 := ⟨am_tin 571 (by decide +kernel) rfl, am_tin 572 (by decide +kernel) rfl⟩
theorem ki_32 : am_ki am_GG md_32 0 := ⟨am_tin 587 (by decide +kernel) rfl, am_tin 588 (by decide +kernel) rfl⟩
theorem ki_33 : am_ki am_GG md_33 0 := ⟨am_tin 639 (by decide +kernel) rfl, am_tin 640 (by decide +kernel) rfl⟩
theorem ki_34 : am_ki am_GG md_34 0 := ⟨am_tin 595 (by decide +kernel) rfl, am_tin 596 (by decide +kernel) rfl⟩
theorem ki_35 : am_ki am_GG md_35 0 := ⟨am_tin 656 (by decide +kernel) rfl, am_tin 657 (by decide +kernel) rfl⟩
theorem ki_36 : am_ki am_GG md_36 0 := ⟨am_tin 768 (by decide +kernel) rfl, am_tin 769 (by decide +kernel) rfl⟩
theorem ki_37 : am_ki am_GG md_37 0 := ⟨am_tin 756 (by decide +kernel) rfl, am_tin 757 (by decide +kernel) rfl⟩
theorem ki_38 : am_ki am_GG md_38 0 := ⟨am_tin 732 (by decide +kernel) rfl, am_tin 733 (by decide +kernel) rfl⟩
theorem ki_39 : am_ki am_GG md_39 2 := am_tin 164 (by decide +kernel) rfl
theorem ki_40 : am_ki am_GG md_40 0 := ⟨am_tin 406 (by decide +kernel) rfl, am_tin 407 (by decide +kernel) rfl⟩
theorem ki_41 : am_ki am_GG md_41 0 := ⟨am_tin 411 (by decide +kernel) rfl, am_sin 8 (by decide +kernel) rfl⟩
theorem ki_42 : am_ki am_GG md_42 0 := ⟨am_tin 427 (by decide +kernel) rfl, am_sin 10 (by decide +kernel) rfl⟩
theorem ki_43 : am_ki am_GG md_43 0 := ⟨am_tin 431 (by decide +kernel) rfl, am_sin 11 (by decide +kernel) rfl⟩
theorem ki_44 : am_ki am_GG md_44 0 := ⟨am_tin 435 (by decide +kernel) rfl, am_sin 12 (by decide +kernel) rfl⟩
theorem ki_45 : am_ki am_GG md_45 0 := ⟨am_tin 439 (by decide +kernel) rfl, am_sin 13 (by decide +kernel) rfl⟩
theorem ki_46 : am_ki am_GG md_46 0 := ⟨am_tin 548 (by decide +kernel) rfl, am_sin 33 (by decide +kernel) rfl⟩
theorem ki_47 : am_ki am_GG md_47 0 := ⟨am_tin 552 (by decide +kernel) rfl, am_sin 34 (by decide +kernel) rfl⟩
theorem ki_48 : am_ki am_GG md_48 0 := ⟨am_tin 468 (by decide +kernel) rfl, am_sin 19 (by decide +kernel) rfl⟩
theorem ki_49 : am_ki am_GG md_49 0 := ⟨am_tin 544 (by decide +kernel) rfl, am_sin 32 (by decide +kernel) rfl⟩
theorem ki_50 : am_ki am_GG md_50 0 := ⟨am_tin 476 (by decide +kernel) rfl, am_sin 21 (by decide +kernel) rfl⟩
theorem ki_51 : am_ki am_GG md_51 0 := ⟨am_tin 480 (by decide +kernel) rfl, am_sin 22 (by decide +kernel) rfl⟩
theorem ki_52 : am_ki am_GG md_52 0 := ⟨am_tin 460 (by decide +kernel) rfl, am_sin 17 (by decide +kernel) rfl⟩
theorem ki_53 : am_ki am_GG md_53 0 := ⟨am_tin 464 (by decide +kernel) rfl, am_sin 18 (by decide +kernel) rfl⟩
theorem ki_54 : am_ki am_GG md_54 0 := ⟨am_tin 488 (by decide +kernel) rfl, am_sin 23 (by decide +kernel) rfl⟩
theorem ki_55 : am_ki am_GG md_55 0 := ⟨am_tin 492 (by decide +kernel) rfl, am_sin 24 (by decide +kernel) rfl⟩
theorem ki_56 : am_ki am_GG md_56 0 := ⟨am_tin 500 (by decide +kernel) rfl, am_sin 25 (by decide +kernel) rfl⟩
theorem ki_57 : am_ki am_GG md_57 0 := ⟨am_tin 504 (by decide +kernel) rfl, am_sin 26 (by decide +kernel) rfl⟩
theorem ki_58 : am_ki am_GG md_58 0 := ⟨am_tin 540 (by decide +kernel) rfl, am_sin 31 (by decide +kernel) rfl⟩
theorem ki_59 : am_ki am_GG md_59 0 := ⟨am_tin 508 (by decide +kernel) rfl, am_sin 27 (by decide +kernel) rfl⟩
theorem ki_60 : am_ki am_GG md_60 0 := ⟨am_tin 532 (by decide +kernel) rfl, am_sin 30 (by decide +kernel) rfl⟩
theorem ki_61 : am_ki am_GG md_61 0 := ⟨am_tin 512 (by decide +kernel) rfl, am_sin 28 (by decide +kernel) rfl⟩
theorem ki_62 : am_ki am_GG md_62 0 := ⟨am_tin 443 (by decide +kernel) rfl, am_sin 14 (by decide +kernel) rfl⟩
theorem ki_63 : am_ki am_GG md_63 0 := ⟨am_tin 472 (by decide +kernel) rfl, am_sin 20 (by decide +kernel) rfl⟩
theorem ki_64 : am_ki am_GG md_64 0 := ⟨am_tin 451 (by decide +kernel) rfl, am_sin 16 (by decide +kernel) rfl⟩
theorem ki_65 : am_ki am_GG md_65 0 := ⟨am_tin 520 (by decide +kernel) rfl, am_sin 29 (by decide +kernel) rfl⟩
theorem ki_66 : am_ki am_GG md_66 0 := ⟨am_tin 423 (by decide +kernel) rfl, am_sin 9 (by decide +kernel) rfl⟩
theorem ki_67 : am_ki am_GG md_67 0 := ⟨am_tin 447 (by decide +kernel) rfl, am_sin 15 (by decide +kernel) rfl⟩
theorem ki_68 : am_ki am_GG md_68 2 := am_tin 97 (by decide +kernel) rfl
theorem ki_69 : am_ki am_GG md_69 0 := ⟨am_tin 414 (by decide +kernel) rfl, am_tin 415 (by decide +kernel) rfl⟩
theorem ki_70 : am_ki am_GG md_70 0 := ⟨am_tin 418 (by decide +kernel) rfl, am_tin 419 (by decide +kernel) rfl⟩
theorem ki_71 : am_ki am_GG md_71 0 := ⟨am_tin 483 (by decide +kernel) rfl, am_tin 484 (by decide +kernel) rfl⟩
theorem ki_72 : am_ki am_GG md_72 0 := ⟨am_tin 607 (by decide +kernel) rfl, am_tin 608 (by decide +kernel) rfl⟩
theorem ki_73 : am_ki am_GG md_73 0 := ⟨am_tin 623 (by decide +kernel) rfl, am_tin 624 (by decide +kernel) rfl⟩
theorem ki_74 : am_ki am_GG md_74 0 := ⟨am_tin 535 (by decide +kernel) rfl, am_tin 536 (by decide +kernel) rfl⟩
theorem ki_75 : am_ki am_GG md_75 0 := ⟨am_tin 523 (by decide +kernel) rfl, am_tin 524 (by decide +kernel) rfl⟩
theorem ki_76 : am_ki am_GG md_76 2 := am_tin 237 (by decide +kernel) rfl
theorem ki_77 : am_ki am_GG md_77 0 := ⟨am_tin 762 (by decide +kernel) rfl, am_tin 763 (by decide +kernel) rfl⟩
theorem ki_78 : am_ki am_GG md_78 0 := ⟨am_tin 780 (by decide +kernel) rfl, am_tin 781 (by decide +kernel) rfl⟩
theorem ki_79 : am_ki am_GG md_79 0 := ⟨am_tin 776 (by decide +kernel) rfl, am_tin 777 (by decide +kernel) rfl⟩
theorem ki_80 : am_ki am_GG md_80 2 := am_tin 25 (by decide +kernel) rfl
theorem ki_81 : am_ki am_GG md_81 1 := am_tin 295 (by decide +kernel) rfl
theorem ki_82 : am_ki am_GG md_82 1 := am_tin 374 (by decide +kernel) rfl
theorem ki_83 : am_ki am_GG md_83 1 := am_tin 363 (by decide +kernel) rfl
theorem ki_84 : am_ki am_GG md_84 1 := am_tin 370 (by decide +kernel) rfl
theorem ki_85 : am_ki am_GG md_85 0 := ⟨am_tin 318 (by decide +kernel) rfl, am_tin 319 (by decide +kernel) rfl⟩
theorem ki_86 : am_ki am_GG md_86 0 := ⟨am_tin 301 (by decide +kernel) rfl, am_tin 302 (by decide +kernel) rfl⟩
theorem ki_87 : am_ki am_GG md_87 0 := ⟨am_tin 347 (by decide +kernel) rfl, am_tin 348 (by decide +kernel) rfl⟩
theorem ki_88 : am_ki am_GG md_88 0 := ⟨am_tin 388 (by decide +kernel) rfl, am_tin 389 (by decide +kernel) rfl⟩
theorem ki_89 : am_ki am_GG md_89 0 := ⟨am_tin 366 (by decide +kernel) rfl, am_tin 367 (by decide +kernel) rfl⟩
theorem ki_90 : am_ki am_GG md_90 0 := ⟨am_tin 575 (by decide +kernel) rfl, am_tin 576 (by decide +kernel) rfl⟩
theorem ki_91 : am_ki am_GG md_91 0 := ⟨am_tin 377 (by decide +kernel) rfl, am_tin 378 (by decide +kernel) rfl⟩
theorem ki_92 : am_ki am_GG md_92 2 := am_tin 43 (by decide +kernel) rfl
theorem ki_93 : am_ki am_GG md_93 1 := am_tin 382 (by decide +kernel) rfl
theorem ki_94 : am_ki am_GG md_94 0 := ⟨am_tin 515 (by decide +kernel) rfl, am_tin 516 (by decide +kernel) rfl⟩
theorem ki_95 : am_ki am_GG md_95 0 := ⟨am_tin 669 (by decide +kernel) rfl, am_tin 670 (by decide +kernel) rfl⟩
theorem ki_96 : am_ki am_GG md_96 0 := ⟨am_tin 339 (by decide +kernel) rfl, am_tin 340 (by decide +kernel) rfl⟩
theorem ki_97 : am_ki am_GG md_97 0 := ⟨am_tin 664 (by decide +kernel) rfl, am_tin 665 (by decide +kernel) rfl⟩
theorem ki_98 : am_ki am_GG md_98 0 := ⟨am_tin 330 (by decide +kernel) rfl, am_tin 331 (by decide +kernel) rfl⟩
theorem ki_99 : am_ki am_GG md_99 0 := ⟨am_tin 336 (by decide +kernel) rfl, am_sin 1 (by decide +kernel) rfl⟩
theorem ki_100 : am_ki am_GG md_100 0 := ⟨am_tin 403 (by decide +kernel) rfl, am_sin 7 (by decide +kernel) rfl⟩
theorem ki_101 : am_ki am_GG md_101 0 := ⟨am_tin 352 (by decide +kernel) rfl, am_sin 3 (by decide +kernel) rfl⟩
theorem ki_102 : am_ki am_GG md_102 0 := ⟨am_tin 356 (by decide +kernel) rfl, am_sin 4 (by decide +kernel) rfl⟩
theorem ki_103 : am_ki am_GG md_103 0 := ⟨am_tin 360 (by decide +kernel) rfl, am_sin 5 (by decide +kernel) rfl⟩
theorem ki_104 : am_ki am_GG md_104 1 := am_tin 392 (by decide +kernel) rfl
theorem ki_105 : am_ki am_GG md_105 0 := ⟨am_tin 396 (by decide +kernel) rfl, am_sin 6 (by decide +kernel) rfl⟩
theorem ki_106 : am_ki am_GG md_106 0 := ⟨am_tin 344 (by decide +kernel) rfl, am_sin 2 (by decide +kernel) rfl⟩
theorem ki_107 : am_ki am_GG md_107 0 := ⟨am_tin 527 (by decide +kernel) rfl, am_tin 528 (by decide +kernel) rfl⟩
theorem ki_108 : am_ki am_GG md_108 2 := am_tin 17 (by decide +kernel) rfl
theorem ki_109 : am_ki am_GG md_109 0 := ⟨am_tin 285 (by decide +kernel) rfl, am_tin 286 (by decide +kernel) rfl⟩
theorem ki_110 : am_ki am_GG md_110 0 := ⟨am_tin 310 (by decide +kernel) rfl, am_tin 311 (by decide +kernel) rfl⟩
theorem ki_111 : am_ki am_GG md_111 0 := ⟨am_tin 314 (by decide +kernel) rfl, am_tin 315 (by decide +kernel) rfl⟩
theorem ki_112 : am_ki am_GG md_112 0 := ⟨am_tin 322 (by decide +kernel) rfl, am_tin 323 (by decide +kernel) rfl⟩
theorem ki_113 : am_ki am_GG md_113 0 := ⟨am_tin 660 (by decide +kernel) rfl, am_tin 661 (by decide +kernel) rfl⟩
theorem ki_114 : am_ki am_GG md_114 0 := ⟨am_tin 674 (by decide +kernel) rfl, am_tin 675 (by decide +kernel) rfl⟩
theorem ki_115 : am_ki am_GG md_115 0 := ⟨am_tin 678 (by decide +kernel) rfl, am_tin 679 (by decide +kernel) rfl⟩
theorem ki_116 : am_ki am_GG md_116 0 := ⟨am_tin 682 (by decide +kernel) rfl, am_tin 683 (by decide +kernel) rfl⟩
theorem ki_117 : am_ki am_GG md_117 0 := ⟨am_tin 698 (by decide +kernel) rfl, am_tin 699 (by decide +kernel) rfl⟩
theorem ki_118 : am_ki am_GG md_118 0 := ⟨am_tin 702 (by decide +kernel) rfl, am_tin 703 (by decide +kernel) rfl⟩
theorem ki_119 : am_ki am_GG md_119 0 := ⟨am_tin 708 (by decide +kernel) rfl, am_tin 709 (by decide +kernel) rfl⟩
theorem ki_120 : am_ki am_GG md_120 0 := ⟨am_tin 712 (by decide +kernel) rfl, am_tin 713 (by decide +kernel) rfl⟩
theorem ki_121 : am_ki am_GG md_121 0 := ⟨am_tin 716 (by decide +kernel) rfl, am_tin 717 (by decide +kernel) rfl⟩
theorem ki_122 : am_ki am_GG md_122 0 := ⟨am_tin 736 (by decide +kernel) rfl, am_tin 737 (by decide +kernel) rfl⟩
theorem ki_123 : am_ki am_GG md_123 0 := ⟨am_tin 742 (by decide +kernel) rfl, am_tin 743 (by decide +kernel) rfl⟩
theorem ki_124 : am_ki am_GG md_124 0 := ⟨am_tin 746 (by decide +kernel) rfl, am_tin 747 (by decide +kernel) rfl⟩
theorem ki_125 : am_ki am_GG md_125 0 := ⟨am_tin 773 (by decide +kernel) rfl, am_sin 55 (by decide +kernel) rfl⟩
theorem ki_126 : am_ki am_GG md_126 0 := ⟨am_tin 327 (by decide +kernel) rfl, am_sin 0 (by decide +kernel) rfl⟩
theorem ki_127 : am_ki am_GG md_127 0 := ⟨am_tin 556 (by decide +kernel) rfl, am_sin 35 (by decide +kernel) rfl⟩
theorem ki_128 : am_ki am_GG md_128 0 := ⟨am_tin 725 (by decide +kernel) rfl, am_sin 54 (by decide +kernel) rfl⟩
theorem ki_129 : am_ki am_GG md_129 0 := ⟨am_tin 721 (by decide +kernel) rfl, am_sin 53 (by decide +kernel) rfl⟩
theorem ki_130 : am_ki am_GG md_130 2 := am_tin 786 (by decide +kernel) rfl
theorem ki_131 : am_ki am_GG md_131 1 := am_tin 906 (by decide +kernel) rfl
theorem ki_132 : am_ki am_GG md_132 0 := ⟨am_tin 902 (by decide +kernel) rfl, am_tin 903 (by decide +kernel) rfl⟩
theorem ki_133 : am_ki am_GG md_133 0 := ⟨am_tin 910 (by decide +kernel) rfl, am_sin 56 (by decide +kernel) rfl⟩
theorem ki_134 : am_ki am_GG md_134 0 := ⟨am_tin 913 (by decide +kernel) rfl, am_tin 914 (by decide +kernel) rfl⟩
theorem ki_135 : am_ki am_GG md_135 0 := ⟨am_tin 917 (by decide +kernel) rfl, am_tin 918 (by decide +kernel) rfl⟩
theorem ki_136 : am_ki am_GG md_136 0 := ⟨am_tin 926 (by decide +kernel) rfl, am_sin 57 (by decide +kernel) rfl⟩
theorem ki_137 : am_ki am_GG md_137 1 := am_tin 952 (by decide +kernel) rfl
theorem ki_138 : am_ki am_GG md_138 1 := am_tin 949 (by decide +kernel) rfl
theorem ki_139 : am_ki am_GG md_139 1 := am_tin 956 (by decide +kernel) rfl
theorem ki_140 : am_ki am_GG md_140 0 := ⟨am_tin 938 (by decide +kernel) rfl, am_sin 60 (by decide +kernel) rfl⟩
theorem ki_141 : am_ki am_GG md_141 0 := ⟨am_tin 930 (by decide +kernel) rfl, am_sin 58 (by decide +kernel) rfl⟩
theorem ki_142 : am_ki am_GG md_142 0 := ⟨am_tin 934 (by decide +kernel) rfl, am_sin 59 (by decide +kernel) rfl⟩
theorem ki_143 : am_ki am_GG md_143 0 := ⟨am_tin 942 (by decide +kernel) rfl, am_sin 61 (by decide +kernel) rfl⟩
theorem ki_144 : am_ki am_GG md_144 0 := ⟨am_tin 946 (by decide +kernel) rfl, am_sin 62 (by decide +kernel) rfl⟩
theorem ki_145 : am_ki am_GG md_145 0 := ⟨am_tin 982 (by decide +kernel) rfl, am_sin 65 (by decide +kernel) rfl⟩
theorem ki_146 : am_ki am_GG md_146 0 := ⟨am_tin 998 (by decide +kernel) rfl, am_sin 69 (by decide +kernel) rfl⟩
theorem ki_147 : am_ki am_GG md_147 0 := ⟨am_tin 1014 (by decide +kernel) rfl, am_sin 73 (by decide +kernel) rfl⟩
theorem ki_148 : am_ki am_GG md_148 0 := ⟨am_tin 1026 (by decide +kernel) rfl, am_sin 76 (by decide +kernel) rfl⟩
theorem ki_149 : am_ki am_GG md_149 0 := ⟨am_tin 994 (by decide +kernel) rfl, am_sin 68 (by decide +kernel) rfl⟩
theorem ki_150 : am_ki am_GG md_150 0 := ⟨am_tin 1002 (by decide +kernel) rfl, am_sin 70 (by decide +kernel) rfl⟩
theorem ki_151 : am_ki am_GG md_151 0 := ⟨am_tin 978 (by decide +kernel) rfl, am_sin 64 (by decide +kernel) rfl⟩
theorem ki_152 : am_ki am_GG md_152 0 := ⟨am_tin 1022 (by decide +kernel) rfl, am_sin 75 (by decide +kernel) rfl⟩
theorem ki_153 : am_ki am_GG md_153 0 := ⟨am_tin 974 (by decide +kernel) rfl, am_sin 63 (by decide +kernel) rfl⟩
theorem ki_154 : am_ki am_GG md_154 0 := ⟨am_tin 986 (by decide +kernel) rfl, am_sin 66 (by decide +kernel) rfl⟩
theorem ki_155 : am_ki am_GG md_155 0 := ⟨am_tin 990 (by decide +kernel) rfl, am_sin 67 (by decide +kernel) rfl⟩
theorem ki_156 : am_ki am_GG md_156 0 := ⟨am_tin 1006 (by decide +kernel) rfl, am_sin 71 (by decide +kernel) rfl⟩
theorem ki_157 : am_ki am_GG md_157 0 := ⟨am_tin 1010 (by decide +kernel) rfl, am_sin 72 (by decide +kernel) rfl⟩
theorem ki_158 : am_ki am_GG md_158 0 := ⟨am_tin 1018 (by decide +kernel) rfl, am_sin 74 (by decide +kernel) rfl⟩
theorem ki_159 : am_ki am_GG md_159 0 := ⟨am_tin 1030 (by decide +kernel) rfl, am_sin 77 (by decide +kernel) rfl⟩
theorem ki_160 : am_ki am_GG md_160 0 := ⟨am_tin 1034 (by decide +kernel) rfl, am_sin 78 (by decide +kernel) rfl⟩
theorem ki_161 : am_ki am_GG md_161 0 := ⟨am_tin 1038 (by decide +kernel) rfl, am_sin 79 (by decide +kernel) rfl⟩
theorem ki_162 : am_ki am_GG md_162 0 := ⟨am_tin 1042 (by decide +kernel) rfl, am_sin 80 (by decide +kernel) rfl⟩
theorem ki_163 : am_ki am_GG md_163 0 := ⟨am_tin 1046 (by decide +kernel) rfl, am_sin 81 (by decide +kernel) rfl⟩
theorem ki_164 : am_ki am_GG md_164 0 := ⟨am_tin 1050 (by decide +kernel) rfl, am_sin 82 (by decide +kernel) rfl⟩
theorem ki_165 : am_ki am_GG md_165 0 := ⟨am_tin 1070 (by decide +kernel) rfl, am_sin 87 (by decide +kernel) rfl⟩
theorem ki_166 : am_ki am_GG md_166 0 := ⟨am_tin 1066 (by decide +kernel) rfl, am_sin 86 (by decide +kernel) rfl⟩
theorem ki_167 : am_ki am_GG md_167 0 := ⟨am_tin 1074 (by decide +kernel) rfl, am_sin 88 (by decide +kernel) rfl⟩
theorem ki_168 : am_ki am_GG md_168 0 := ⟨am_tin 1062 (by decide +kernel) rfl, am_sin 85 (by decide +kernel) rfl⟩
theorem ki_169 : am_ki am_GG md_169 0 := ⟨am_tin 1054 (by decide +kernel) rfl, am_sin 83 (by decide +kernel) rfl⟩
theorem ki_170 : am_ki am_GG md_170 0 := ⟨am_tin 1082 (by decide +kernel) rfl, am_sin 90 (by decide +kernel) rfl⟩
theorem ki_171 : am_ki am_GG md_171 0 := ⟨am_tin 1166 (by decide +kernel) rfl, am_sin 102 (by decide +kernel) rfl⟩
theorem ki_172 : am_ki am_GG md_172 0 := ⟨am_tin 1090 (by decide +kernel) rfl, am_sin 92 (by decide +kernel) rfl⟩
theorem ki_173 : am_ki am_GG md_173 0 := ⟨am_tin 1078 (by decide +kernel) rfl, am_sin 89 (by decide +kernel) rfl⟩
theorem ki_174 : am_ki am_GG md_174 0 := ⟨am_tin 1098 (by decide +kernel) rfl, am_sin 94 (by decide +kernel) rfl⟩
theorem ki_175 : am_ki am_GG md_175 0 := ⟨am_tin 1086 (by decide +kernel) rfl, am_sin 91 (by decide +kernel) rfl⟩
theorem ki_176 : am_ki am_GG md_176 0 := ⟨am_tin 1058 (by decide +kernel) rfl, am_sin 84 (by decide +kernel) rfl⟩
theorem ki_177 : am_ki am_GG md_177 0 := ⟨am_tin 1094 (by decide +kernel) rfl, am_sin 93 (by decide +kernel) rfl⟩
theorem ki_178 : am_ki am_GG md_178 0 := ⟨am_tin 1102 (by decide +kernel) rfl, am_sin 95 (by decide +kernel) rfl⟩
theorem ki_179 : am_ki am_GG md_179 0 := ⟨am_tin 1158 (by decide +kernel) rfl, am_sin 100 (by decide +kernel) rfl⟩
theorem ki_180 : am_ki am_GG md_180 0 := ⟨am_tin 1162 (by decide +kernel) rfl, am_sin 101 (by decide +kernel) rfl⟩
theorem ki_181 : am_ki am_GG md_181 0 := ⟨am_tin 1154 (by decide +kernel) rfl, am_sin 99 (by decide +kernel) rfl⟩
theorem ki_182 : am_ki am_GG md_182 0 := ⟨am_tin 1150 (by decide +kernel) rfl, am_sin 98 (by decide +kernel) rfl⟩
theorem ki_183 : am_ki am_GG md_183 0 := ⟨am_tin 1146 (by decide +kernel) rfl, am_sin 97 (by decide +kernel) rfl⟩
theorem ki_184 : am_ki am_GG md_184 0 := ⟨am_tin 1174 (by decide +kernel) rfl, am_sin 103 (by decide +kernel) rfl⟩
theorem ki_185 : am_ki am_GG md_185 0 := ⟨am_tin 921 (by decide +kernel) rfl, am_tin 922 (by decide +kernel) rfl⟩
theorem ki_186 : am_ki am_GG md_186 0 := ⟨am_tin 1105 (by decide +kernel) rfl, am_tin 1106 (by decide +kernel) rfl⟩
theorem ki_187 : am_ki am_GG md_187 0 := ⟨am_tin 1109 (by decide +kernel) rfl, am_tin 1110 (by decide +kernel) rfl⟩
theorem ki_188 : am_ki am_GG md_188 0 := ⟨am_tin 1113 (by decide +kernel) rfl, am_tin 1114 (by decide +kernel) rfl⟩
theorem ki_189 : am_ki am_GG md_189 0 := ⟨am_tin 1117 (by decide +kernel) rfl, am_tin 1118 (by decide +kernel) rfl⟩
theorem ki_190 : am_ki am_GG md_190 0 := ⟨am_tin 1122 (by decide +kernel) rfl, am_sin 96 (by decide +kernel) rfl⟩
theorem ki_191 : am_ki am_GG md_191 0 := ⟨am_tin 1125 (by decide +kernel) rfl, am_tin 1126 (by decide +kernel) rfl⟩
theorem ki_192 : am_ki am_GG md_192 0 := ⟨am_tin 1129 (by decide +kernel) rfl, am_tin 1130 (by decide +kernel) rfl⟩
theorem ki_193 : am_ki am_GG md_193 0 := ⟨am_tin 1133 (by decide +kernel) rfl, am_tin 1134 (by decide +kernel) rfl⟩
theorem ki_194 : am_ki am_GG md_194 0 := ⟨am_tin 1137 (by decide +kernel) rfl, am_tin 1138 (by decide +kernel) rfl⟩
theorem ki_195 : am_ki am_GG md_195 0 := ⟨am_tin 1141 (by decide +kernel) rfl, am_tin 1142 (by decide +kernel) rfl⟩
theorem ki_196 : am_ki am_GG md_196 0 := ⟨am_tin 1169 (by decide +kernel) rfl, am_tin 1170 (by decide +kernel) rfl⟩
theorem ki_197 : am_ki am_GG md_197 0 := ⟨am_tin 1177 (by decide +kernel) rfl, am_tin 1178 (by decide +kernel) rfl⟩
theorem ki_198 : am_ki am_GG md_198 1 := am_tin 1185 (by decide +kernel) rfl
theorem ki_199 : am_ki am_GG md_199 0 := ⟨am_tin 1189 (by decide +kernel) rfl, am_sin 104 (by decide +kernel) rfl⟩
theorem ki_200 : am_ki am_GG md_200 0 := ⟨am_tin 1181 (by decide +kernel) rfl, am_tin 1182 (by decide +kernel) rfl⟩
theorem ki_201 : am_ki am_GG md_201 0 := ⟨am_tin 1193 (by decide +kernel) rfl, am_sin 105 (by decide +kernel) rfl⟩
set_option maxRecDepth 100000 in
theorem mc_1 : am_mc am_GG md_1 := ⟨am_tin 214 rfl rfl, am_tin 8 (by decide +kernel) rfl, by decide +kernel, ⟨by decide +kernel, by decide +kernel⟩, by decide +kernel⟩
set_option maxRecDepth 100000 in
theorem mc_2 : am_mc am_GG md_2 := ⟨am_tin 561 rfl rfl, am_tin 8 (by decide +kernel) rfl, by decide +kernel, ⟨by decide +kernel, by decide +kernel⟩, by decide +kernel⟩
set_option maxRecDepth 100000 in
theorem mc_3 : am_mc am_GG md_3 := ⟨am_tin 565 rfl rfl, am_tin 8 (by decide +kernel) rfl, by decide +kernel, ⟨by decide +kernel, by decide +kernel⟩, by decide +kernel⟩
set_option maxRecDepth 100000 in
theorem mc_4 : am_mc am_GG md_4 := ⟨am_tin 569 rfl rfl, am_tin 8 (by decide +kernel) rfl, by decide +kernel, ⟨by decide +kernel, by decide +kernel⟩, by decide +kernel⟩
set_option maxRecDepth 100000 in
theorem mc_5 : am_mc am_GG md_5 := ⟨am_tin 581 rfl rfl, am_tin 8 (by decide +kernel) rfl, by decide +kernel, ⟨by decide +kernel, by decide +kernel⟩, by decide +kernel⟩
set_option maxRecDepth 100000 in
theorem mc_6 : am_mc am_GG md_6 := ⟨am_tin 585 rfl rfl, am_tin 8 (by decide +kernel) rfl, by decide +kernel, ⟨by decide +kernel, by decide +kernel⟩, by decide +kernel⟩
set_option maxRecDepth 100000 in
theorem mc_7 : am_mc am_GG md_7 := ⟨am_tin 593 rfl rfl, am_tin 8 (by decide +kernel) rfl, by decide +kernel, ⟨by decide +kernel, by decide +kernel⟩, by decide +kernel⟩
set_option maxRecDepth 100000 in
theorem mc_8 : am_mc am_GG md_8 := ⟨am_tin 601 rfl rfl, am_tin 8 (by decide +kernel) rfl, by decide +kernel, ⟨by decide +kernel, by decide +kernel⟩, by decide +kernel⟩
set_option maxRecDepth 100000 in
theorem mc_9 : am_mc am_GG md_9 := ⟨am_tin 617 rfl rfl, am_tin 8 (by decide +kernel) rfl, by decide +kernel, ⟨by decide +kernel, by decide +kernel⟩, by decide +kernel⟩
set_option maxRecDepth 100000 in
theorem mc_10 : am_mc am_GG md_10 := ⟨am_tin 621 rfl rfl, am_tin 8 (by decide +kernel) rfl, by decide +kernel, ⟨by decide +kernel, by decide +kernel⟩, by decide +kernel⟩
set_option maxRecDepth 100000 in
theorem mc_11 : am_mc am_GG md_11 := ⟨am_tin 605 rfl rfl, am_tin 8 (by decide +kernel) rfl, by decide +kernel, ⟨by decide +kernel, by decide +kernel⟩, by decide +kernel⟩
set_option maxRecDepth 100000 in
theorem mc_12 : am_mc am_GG md_12 := ⟨am_tin 613 rfl rfl, am_tin 8 (by decide +kernel) rfl, by decide +kernel, ⟨by decide +kernel, by decide +kernel⟩, by decide +kernel⟩
set_option maxRecDepth 100000 in
theorem mc_13 : am_mc am_GG md_13 := ⟨am_tin 629 rfl rfl, am_tin 8 (by decide +kernel) rfl, by decide +kernel, ⟨by decide +kernel, by decide +kernel⟩, by decide +kernel⟩
set_option maxRecDepth 100000 in
theorem mc_14 : am_mc am_GG md_14 := ⟨am_tin 633 rfl rfl, am_tin 8 (by decide +kernel) rfl, by decide +kernel, ⟨by decide +kernel, by decide +kernel⟩, by decide +kernel⟩
set_option maxRecDepth 100000 in
theorem mc_15 : am_mc am_GG md_15 := ⟨am_tin 637 rfl rfl, am_tin 8 (by decide +kernel) rfl, by decide +kernel, ⟨by decide +kernel, by decide +kernel⟩, by decide +kernel⟩
set_option maxRecDepth 100000 in
theorem mc_16 : am_mc am_GG md_16 := ⟨am_tin 646 rfl rfl, am_tin 8 (by decide +kernel) rfl, by decide +kernel, ⟨by decide +kernel, by decide +kernel⟩, by decide +kernel⟩
set_option maxRecDepth 100000 in
theorem mc_17 : am_mc am_GG md_17 := ⟨am_tin 650 rfl rfl, am_tin 8 (by decide +kernel) rfl, by decide +kernel, ⟨by decide +kernel, by decide +kernel⟩, by decide +kernel⟩
set_option maxRecDepth 100000 in
theorem mc_18 : am_mc am_GG md_18 := ⟨am_tin 654 rfl rfl, am_tin 8 (by decide +kernel) rfl, by decide +kernel, ⟨by decide +kernel, by decide +kernel⟩, by decide +kernel⟩
set_option maxRecDepth 100000 in
theorem mc_19 : am_mc am_GG md_19 := ⟨am_tin 293 rfl rfl, am_tin 11 (by decide +kernel) rfl, by decide +kernel, ⟨by decide +kernel, by decide +kernel⟩, by decide +kernel⟩
set_option maxRecDepth 100000 in
theorem mc_20 : am_mc am_GG md_20 := ⟨am_tin 299 rfl rfl, am_tin 11 (by decide +kernel) rfl, by decide +kernel, ⟨by decide +kernel, by decide +kernel⟩, by decide +kernel⟩
set_option maxRecDepth 100000 in
theorem mc_21 : am_mc am_GG md_21 := ⟨am_tin 290 rfl rfl, am_tin 11 (by decide +kernel) rfl, by decide +kernel, ⟨by decide +kernel, by decide +kernel⟩, by decide +kernel⟩
set_option maxRecDepth 100000 in
theorem mc_22 : am_mc am_GG md_22 := ⟨am_tin 751 rfl rfl, am_tin 11 (by decide +kernel) rfl, by decide +kernel, ⟨by decide +kernel, by decide +kernel⟩, by decide +kernel⟩
set_option maxRecDepth 100000 in
theorem mc_23 : am_mc am_GG md_23 := ⟨am_tin 81 rfl rfl, am_tin 4 (by decide +kernel) rfl, by decide +kernel, ⟨by decide +kernel, by decide +kernel⟩, by decide +kernel⟩
set_option maxRecDepth 100000 in
theorem mc_24 : am_mc am_GG md_24 := ⟨am_tin 497 rfl rfl, am_tin 4 (by decide +kernel) rfl, by decide +kernel, ⟨by decide +kernel, by decide +kernel⟩, by decide +kernel⟩
set_option maxRecDepth 100000 in
theorem mc_25 : am_mc am_GG md_25 := ⟨am_tin 688 rfl rfl, am_tin 4 (by decide +kernel) rfl, by decide +kernel, ⟨by decide +kernel, by decide +kernel⟩, by decide +kernel⟩
set_option maxRecDepth 100000 in
theorem mc_26 : am_mc am_GG md_26 := ⟨am_tin 696 rfl rfl, am_tin 4 (by decide +kernel) rfl, by decide +kernel, ⟨by decide +kernel, by decide +kernel⟩, by decide +kernel⟩
set_option maxRecDepth 100000 in
theorem mc_27 : am_mc am_GG md_27 := ⟨am_tin 692 rfl rfl, am_tin 4 (by decide +kernel) rfl, by decide +kernel, ⟨by decide +kernel, by decide +kernel⟩, by decide +kernel⟩
set_option maxRecDepth 100000 in
theorem mc_28 : am_mc am_GG md_28 := ⟨am_tin 119 rfl rfl, am_tin 6 (by decide +kernel) rfl, by decide +kernel, ⟨by decide +kernel, by decide +kernel⟩, by decide +kernel⟩
set_option maxRecDepth 100000 in
theorem mc_29 : am_mc am_GG md_29 := ⟨am_tin 456 rfl rfl, am_tin 6 (by decide +kernel) rfl, by decide +kernel, ⟨by decide +kernel, by decide +kernel⟩, by decide +kernel⟩
set_option maxRecDepth 100000 in
theorem mc_30 : am_mc am_GG md_30 := ⟨am_tin 730 rfl rfl, am_tin 6 (by decide +kernel) rfl, by decide +kernel, ⟨by decide +kernel, by decide +kernel⟩, by decide +kernel⟩
set_option maxRecDepth 100000 in
theorem mc_31 : am_mc am_GG md_31 := ⟨am_tin 573 rfl rfl, am_tin 6 (by decide +kernel) rfl, by decide +kernel, ⟨by decide +kernel, by decide +kernel⟩, by decide +kernel⟩
set_option maxRecDepth 100000 in
theorem mc_32 : am_mc am_GG md_32 := ⟨am_tin 589 rfl rfl, am_tin 6 (by decide +kernel) rfl, by decide +kernel, ⟨by decide +kernel, by decide +kernel⟩, by decide +kernel⟩
set_option maxRecDepth 100000 in
theorem mc_33 : am_mc am_GG md_33 := ⟨am_tin 641 rfl rfl, am_tin 6 (by decide +kernel) rfl, by decide +kernel, ⟨by decide +kernel, by decide +kernel⟩, by decide +kernel⟩
set_option maxRecDepth 100000 in
theorem mc_34 : am_mc am_GG md_34 := ⟨am_tin 597 rfl rfl, am_tin 6 (by decide +kernel) rfl, by decide +kernel, ⟨by decide +kernel, by decide +kernel⟩, by decide +kernel⟩
set_option maxRecDepth 100000 in
theorem mc_35 : am_mc am_GG md_35 := ⟨am_tin 658 rfl rfl, am_tin 6 (by decide +kernel) rfl, by decide +kernel, ⟨by decide +kernel, by decide +kernel⟩, by decide +kernel⟩
set_option maxRecDepth 100000 in
theorem mc_36 : am_mc am_GG md_36 := ⟨am_tin 770 rfl rfl, am_tin 6 (by decide +kernel) rfl, by decide +kernel, ⟨by decide +kernel, by decide +kernel⟩, by decide +kernel⟩
set_option maxRecDepth 100000 in
theorem mc_37 : am_mc am_GG md_37 := ⟨am_tin 758 rfl rfl, am_tin 6 (by decide +kernel) rfl, by decide +kernel, ⟨by decide +kernel, by decide +kernel⟩, by decide +kernel⟩
set_option maxRecDepth 100000 in
theorem mc_38 : am_mc am_GG md_38 := ⟨am_tin 734 rfl rfl, am_tin 6 (by decide +kernel) rfl, by decide +kernel, ⟨by decide +kernel, by decide +kernel⟩, by decide +kernel⟩
set_option maxRecDepth 100000 in
theorem mc_39 : am_mc am_GG md_39 := ⟨am_tin 165 rfl rfl, am_tin 7 (by decide +kernel) rfl, by decide +kernel, ⟨by decide +kernel, by decide +kernel⟩, by decide +kernel⟩
set_option maxRecDepth 100000 in
theorem mc_40 : am_mc am_GG md_40 := ⟨am_tin 408 rfl rfl, am_tin 7 (by decide +kernel) rfl, by decide +kernel, ⟨by decide +kernel, by decide +kernel⟩, by decide +kernel⟩
set_option maxRecDepth 100000 in
theorem mc_41 : am_mc am_GG md_41 := ⟨am_tin 412 rfl rfl, am_tin 7 (by decide +kernel) rfl, by decide +kernel, ⟨by decide +kernel, by decide +kernel⟩, by decide +kernel⟩
set_option maxRecDepth 100000 in
theorem mc_42 : am_mc am_GG md_42 := ⟨am_tin 428 rfl rfl, am_tin 7 (by decide +kernel) rfl, by decide +kernel, ⟨by decide +kernel, by decide +kernel⟩, by decide +kernel⟩
set_option maxRecDepth 100000 in
theorem mc_43 : am_mc am_GG md_43 := ⟨am_tin 432 rfl rfl, am_tin 7 (by decide +kernel) rfl, by decide +kernel, ⟨by decide +kernel, by decide +kernel⟩, by decide +kernel⟩
set_option maxRecDepth 100000 in
theorem mc_44 : am_mc am_GG md_44 := ⟨am_tin 436 rfl rfl, am_tin 7 (by decide +kernel) rfl, by decide +kernel, ⟨by decide +kernel, by decide +kernel⟩, by decide +kernel⟩
set_option maxRecDepth 100000 in
theorem mc_45 : am_mc am_GG md_45 := ⟨am_tin 440 rfl rfl, am_tin 7 (by decide +kernel) rfl, by decide +kernel, ⟨by decide +kernel, by decide +kernel⟩, by decide +kernel⟩
set_option maxRecDepth 100000 in
theorem mc_46 : am_mc am_GG md_46 := ⟨am_tin 549 rfl rfl, am_tin 7 (by decide +kernel) rfl, by decide +kernel, ⟨by decide +kernel, by decide +kernel⟩, by decide +kernel⟩
set_option maxRecDepth 100000 in
theorem mc_47 : am_mc am_GG md_47 := ⟨am_tin 553 rfl rfl, am_tin 7 (by decide +kernel) rfl, by decide +kernel, ⟨by decide +kernel, by decide +kernel⟩, by decide +kernel⟩
set_option maxRecDepth 100000 in
theorem mc_48 : am_mc am_GG md_48 := ⟨am_tin 469 rfl rfl, am_tin 7 (by decide +kernel) rfl, by decide +kernel, ⟨by decide +kernel, by decide +kernel⟩, by decide +kernel⟩
set_option maxRecDepth 100000 in
theorem mc_49 : am_mc am_GG md_49 := ⟨am_tin 545 rfl rfl, am_tin 7 (by decide +kernel) rfl, by decide +kernel, ⟨by decide +kernel, by decide +kernel⟩, by decide +kernel⟩
set_option maxRecDepth 100000 in
theorem mc_50 : am_mc am_GG md_50 := ⟨am_tin 477 rfl rfl, am_tin 7 (by decide +kernel) rfl, by decide +kernel, ⟨by decide +kernel, by decide +kernel⟩, by decide +kernel⟩
set_option maxRecDepth 100000 in
theorem mc_51 : am_mc am_GG md_51 := ⟨am_tin 481 rfl rfl, am_tin 7 (by decide +kernel) rfl, by decide +kernel, ⟨by decide +kernel, by decide +kernel⟩, by decide +kernel⟩
set_option maxRecDepth 100000 in
theorem mc_52 : am_mc am_GG md_52 := ⟨am_tin 461 rfl rfl, am_tin 7 (by decide +kernel) rfl, by decide +kernel, ⟨by decide +kernel, by decide +kernel⟩, by decide +kernel⟩
set_option maxRecDepth 100000 in
theorem mc_53 : am_mc am_GG md_53 := ⟨am_tin 465 rfl rfl, am_tin 7 (by decide +kernel) rfl, by decide +kernel, ⟨by decide +kernel, by decide +kernel⟩, by decide +kernel⟩
set_option maxRecDepth 100000 in
theorem mc_54 : am_mc am_GG md_54 := ⟨am_tin 489 rfl rfl, am_tin 7 (by decide +kernel) rfl, by decide +kernel, ⟨by decide +kernel, by decide +kernel⟩, by decide +kernel⟩
set_option maxRecDepth 100000 in
theorem mc_55 : am_mc am_GG md_55 := ⟨am_tin 493 rfl rfl, am_tin 7 (by decide +kernel) rfl, by decide +kernel, ⟨by decide +kernel, by decide +kernel⟩, by decide +kernel⟩
set_option maxRecDepth 100000 in
theorem mc_56 : am_mc am_GG md_56 := ⟨am_tin 501 rfl rfl, am_tin 7 (by decide +kernel) rfl, by decide +kernel, ⟨by decide +kernel, by decide +kernel⟩, by decide +kernel⟩
set_option maxRecDepth 100000 in
theorem mc_57 : am_mc am_GG md_57 := ⟨am_tin 505 rfl rfl, am_tin 7 (by decide +kernel) rfl, by decide +kernel, ⟨by decide +kernel, by decide +kernel⟩, by decide +kernel⟩
set_option maxRecDepth 100000 in
theorem mc_58 : am_mc am_GG md_58 := ⟨am_tin 541 rfl rfl, am_tin 7 (by decide +kernel) rfl, by decide +kernel, ⟨by decide +kernel, by decide +kernel⟩, by decide +kernel⟩
set_option maxRecDepth 100000 in
theorem mc_59 : am_mc am_GG md_59 := ⟨am_tin 509 rfl rfl, am_tin 7 (by decide +kernel) rfl, by decide +kernel, ⟨by decide +kernel, by decide +kernel⟩, by decide +kernel⟩
set_option maxRecDepth 100000 in
theorem mc_60 : am_mc am_GG md_60 := ⟨am_tin 533 rfl rfl, am_tin 7 (by decide +kernel) rfl, by decide +kernel, ⟨by decide +kernel, by decide +kernel⟩, by decide +kernel⟩
set_option maxRecDepth 100000 in
theorem mc_61 : am_mc am_GG md_61 := ⟨am_tin 513 rfl rfl, am_tin 7 (by decide +kernel) rfl, by decide +kernel, ⟨by decide +kernel, by decide +kernel⟩, by decide +kernel⟩
set_option maxRecDepth 100000 in
theorem mc_62 : am_mc am_GG md_62 := ⟨am_tin 444 rfl rfl, am_tin 7 (by decide +kernel) rfl, by decide +kernel, ⟨by decide +kernel, by decide +kernel⟩, by decide +kernel⟩
set_option maxRecDepth 100000 in
theorem mc_63 : am_mc am_GG md_63 := ⟨am_tin 473 rfl rfl, am_tin 7 (by decide +kernel) rfl, by decide +kernel, ⟨by decide +kernel, by decide +kernel⟩, by decide +kernel⟩
set_option maxRecDepth 100000 in
theorem mc_64 : am_mc am_GG md_64 := ⟨am_tin 452 rfl rfl, am_tin 7 (by decide +kernel) rfl, by decide +kernel, ⟨by decide +kernel, by decide +kernel⟩, by decide +kernel⟩
set_option maxRecDepth 100000 in
theorem mc_65 : am_mc am_GG md_65 := ⟨am_tin 521 rfl rfl, am_tin 7 (by decide +kernel) rfl, by decide +kernel, ⟨by decide +kernel, by decide +kernel⟩, by decide +kernel⟩
set_option maxRecDepth 100000 in
theorem mc_66 : am_mc am_GG md_66 := ⟨am_tin 424 rfl rfl, am_tin 7 (by decide +kernel) rfl, by decide +kernel, ⟨by decide +kernel, by decide +kernel⟩, by decide +kernel⟩
set_option maxRecDepth 100000 in
theorem mc_67 : am_mc am_GG md_67 := ⟨am_tin 448 rfl rfl, am_tin 7 (by decide +kernel) rfl, by decide +kernel, ⟨by decide +kernel, by decide +kernel⟩, by decide +kernel⟩
set_option maxRecDepth 100000 in
theorem mc_68 : am_mc am_GG md_68 := ⟨am_tin 98 rfl rfl, am_tin 5 (by decide +kernel) rfl, by decide +kernel, ⟨by decide +kernel, by decide +kernel⟩, by decide +kernel⟩
set_option maxRecDepth 100000 in
theorem mc_69 : am_mc am_GG md_69 := ⟨am_tin 416 rfl rfl, am_tin 5 (by decide +kernel) rfl, by decide +kernel, ⟨by decide +kernel, by decide +kernel⟩, by decide +kernel⟩
set_option maxRecDepth 100000 in
theorem mc_70 : am_mc am_GG md_70 := ⟨am_tin 420 rfl rfl, am_tin 5 (by decide +kernel) rfl, by decide +kernel, ⟨by decide +kernel, by decide +kernel⟩, by decide +kernel⟩
set_option maxRecDepth 100000 in
theorem mc_71 : am_mc am_GG md_71 := ⟨am_tin 485 rfl rfl, am_tin 5 (by decide +kernel) rfl, by decide +kernel, ⟨by decide +kernel, by decide +kernel⟩, by decide +kernel⟩
set_option maxRecDepth 100000 in
theorem mc_72 : am_mc am_GG md_72 := ⟨am_tin 609 rfl rfl, am_tin 5 (by decide +kernel) rfl, by decide +kernel, ⟨by decide +kernel, by decide +kernel⟩, by decide +kernel⟩
set_option maxRecDepth 100000 in
theorem mc_73 : am_mc am_GG md_73 := ⟨am_tin 625 rfl rfl, am_tin 5 (by decide +kernel) rfl, by decide +kernel, ⟨by decide +kernel, by decide +kernel⟩, by decide +kernel⟩
set_option maxRecDepth 100000 in
theorem mc_74 : am_mc am_GG md_74 := ⟨am_tin 537 rfl rfl, am_tin 5 (by decide +kernel) rfl, by decide +kernel, ⟨by decide +kernel, by decide +kernel⟩, by decide +kernel⟩
set_option maxRecDepth 100000 in
theorem mc_75 : am_mc am_GG md_75 := ⟨am_tin 525 rfl rfl, am_tin 5 (by decide +kernel) rfl, by decide +kernel, ⟨by decide +kernel, by decide +kernel⟩, by decide +kernel⟩
set_option maxRecDepth 100000 in
theorem mc_76 : am_mc am_GG md_76 := ⟨am_tin 238 rfl rfl, am_tin 9 (by decide +kernel) rfl, by decide +kernel, ⟨by decide +kernel, by decide +kernel⟩, by decide +kernel⟩
set_option maxRecDepth 100000 in
theorem mc_77 : am_mc am_GG md_77 := ⟨am_tin 764 rfl rfl, am_tin 9 (by decide +kernel) rfl, by decide +kernel, ⟨by decide +kernel, by decide +kernel⟩, by decide +kernel⟩
set_option maxRecDepth 100000 in
theorem mc_78 : am_mc am_GG md_78 := ⟨am_tin 782 rfl rfl, am_tin 9 (by decide +kernel) rfl, by decide +kernel, ⟨by decide +kernel, by decide +kernel⟩, by decide +kernel⟩
set_option maxRecDepth 100000 in
theorem mc_79 : am_mc am_GG md_79 := ⟨am_tin 778 rfl rfl, am_tin 9 (by decide +kernel) rfl, by decide +kernel, ⟨by decide +kernel, by decide +kernel⟩, by decide +kernel⟩
set_option maxRecDepth 100000 in
theorem mc_80 : am_mc am_GG md_80 := ⟨am_tin 26 rfl rfl, am_tin 2 (by decide +kernel) rfl, by decide +kernel, ⟨by decide +kernel, by decide +kernel⟩, by decide +kernel⟩
set_option maxRecDepth 100000 in
theorem mc_81 : am_mc am_GG md_81 := ⟨am_tin 296 rfl rfl, am_tin 2 (by decide +kernel) rfl, by decide +kernel, ⟨by decide +kernel, by decide +kernel⟩, by decide +kernel⟩
set_option maxRecDepth 100000 in
theorem mc_82 : am_mc am_GG md_82 := ⟨am_tin 375 rfl rfl, am_tin 2 (by decide +kernel) rfl, by decide +kernel, ⟨by decide +kernel, by decide +kernel⟩, by decide +kernel⟩
set_option maxRecDepth 100000 in
theorem mc_83 : am_mc am_GG md_83 := ⟨am_tin 364 rfl rfl, am_tin 2 (by decide +kernel) rfl, by decide +kernel, ⟨by decide +kernel, by decide +kernel⟩, by decide +kernel⟩
set_option maxRecDepth 100000 in
theorem mc_84 : am_mc am_GG md_84 := ⟨am_tin 371 rfl rfl, am_tin 2 (by decide +kernel) rfl, by decide +kernel, ⟨by decide +kernel, by decide +kernel⟩, by decide +kernel⟩
set_option maxRecDepth 100000 in
theorem mc_85 : am_mc am_GG md_85 := ⟨am_tin 320 rfl rfl, am_tin 2 (by decide +kernel) rfl, by decide +kernel, ⟨by decide +kernel, by decide +kernel⟩, by decide +kernel⟩
set_option maxRecDepth 100000 in
theorem mc_86 : am_mc am_GG md_86 := ⟨am_tin 303 rfl rfl, am_tin 2 (by decide +kernel) rfl, by decide +kernel, ⟨by decide +kernel, by decide +kernel⟩, by decide +kernel⟩
set_option maxRecDepth 100000 in
theorem mc_87 : am_mc am_GG md_87 := ⟨am_tin 349 rfl rfl, am_tin 2 (by decide +kernel) rfl, by decide +kernel, ⟨by decide +kernel, by decide +kernel⟩, by decide +kernel⟩
set_option maxRecDepth 100000 in
theorem mc_88 : am_mc am_GG md_88 := ⟨am_tin 390 rfl rfl, am_tin 2 (by decide +kernel) rfl, by decide +kernel, ⟨by decide +kernel, by decide +kernel⟩, by decide +kernel⟩
set_option maxRecDepth 100000 in
theorem mc_89 : am_mc am_GG md_89 := ⟨am_tin 368 rfl rfl, am_tin 2 (by decide +kernel) rfl, by decide +kernel, ⟨by decide +kernel, by decide +kernel⟩, by decide +kernel⟩
set_option maxRecDepth 100000 in
theorem mc_90 : am_mc am_GG md_90 := ⟨am_tin 577 rfl rfl, am_tin 2 (by decide +kernel) rfl, by decide +kernel, ⟨by decide +kernel, by decide +kernel⟩, by decide +kernel⟩
set_option maxRecDepth 100000 in
theorem mc_91 : am_mc am_GG md_91 := ⟨am_tin 379 rfl rfl, am_tin 2 (by decide +kernel) rfl, by decide +kernel, ⟨by decide +kernel, by decide +kernel⟩, by decide +kernel⟩
set_option maxRecDepth 100000 in
theorem mc_92 : am_mc am_GG md_92 := ⟨am_tin 44 rfl rfl, am_tin 3 (by decide +kernel) rfl, by decide +kernel, ⟨by decide +kernel, by decide +kernel⟩, by decide +kernel⟩
set_option maxRecDepth 100000 in
theorem mc_93 : am_mc am_GG md_93 := ⟨am_tin 383 rfl rfl, am_tin 3 (by decide +kernel) rfl, by decide +kernel, ⟨by decide +kernel, by decide +kernel⟩, by decide +kernel⟩
set_option maxRecDepth 100000 in
theorem mc_94 : am_mc am_GG md_94 := ⟨am_tin 517 rfl rfl, am_tin 3 (by decide +kernel) rfl, by decide +kernel, ⟨by decide +kernel, by decide +kernel⟩, by decide +kernel⟩
set_option maxRecDepth 100000 in
theorem mc_95 : am_mc am_GG md_95 := ⟨am_tin 671 rfl rfl, am_tin 3 (by decide +kernel) rfl, by decide +kernel, ⟨by decide +kernel, by decide +kernel⟩, by decide +kernel⟩
set_option maxRecDepth 100000 in
theorem mc_96 : am_mc am_GG md_96 := ⟨am_tin 341 rfl rfl, am_tin 3 (by decide +kernel) rfl, by decide +kernel, ⟨by decide +kernel, by decide +kernel⟩, by decide +kernel⟩
set_option maxRecDepth 100000 in
theorem mc_97 : am_mc am_GG md_97 := ⟨am_tin 666 rfl rfl, am_tin 3 (by decide +kernel) rfl, by decide +kernel, ⟨by decide +kernel, by decide +kernel⟩, by decide +kernel⟩
set_option maxRecDepth 100000 in
theorem mc_98 : am_mc am_GG md_98 := ⟨am_tin 332 rfl rfl, am_tin 3 (by decide +kernel) rfl, by decide +kernel, ⟨by decide +kernel, by decide +kernel⟩, by decide +kernel⟩
set_option maxRecDepth 100000 in
theorem mc_99 : am_mc am_GG md_99 := ⟨am_tin 337 rfl rfl, am_tin 3 (by decide +kernel) rfl, by decide +kernel, ⟨by decide +kernel, by decide +kernel⟩, by decide +kernel⟩
set_option maxRecDepth 100000 in
theorem mc_100 : am_mc am_GG md_100 := ⟨am_tin 404 rfl rfl, am_tin 3 (by decide +kernel) rfl, by decide +kernel, ⟨by decide +kernel, by decide +kernel⟩, by decide +kernel⟩
set_option maxRecDepth 100000 in
theorem mc_101 : am_mc am_GG md_101 := ⟨am_tin 353 rfl rfl, am_tin 3 (by decide +kernel) rfl, by decide +kernel, ⟨by decide +kernel, by decide +kernel⟩, by decide +kernel⟩
set_option maxRecDepth 100000 in
theorem mc_102 : am_mc am_GG md_102 := ⟨am_tin 357 rfl rfl, am_tin 3 (by decide +kernel) rfl, by decide +kernel, ⟨by decide +kernel, by decide +kernel⟩, by decide +kernel⟩
set_option maxRecDepth 100000 in
theorem mc_103 : am_mc am_GG md_103 := ⟨am_tin 361 rfl rfl, am_tin 3 (by decide +kernel) rfl, by decide +kernel, ⟨by decide +kernel, by decide +kernel⟩, by decide +kernel⟩
set_option maxRecDepth 100000 in
theorem mc_104 : am_mc am_GG md_104 := ⟨am_tin 393 rfl rfl, am_tin 3 (by decide +kernel) rfl, by decide +kernel, ⟨by decide +kernel, by decide +kernel⟩, by decide +kernel⟩
set_option maxRecDepth 100000 in
theorem mc_105 : am_mc am_GG md_105 := ⟨am_tin 397 rfl rfl, am_tin 3 (by decide +kernel) rfl, by decide +kernel, ⟨by decide +kernel, by decide +kernel⟩, by decide +kernel⟩
set_option maxRecDepth 100000 in
theorem mc_106 : am_mc am_GG md_106 := ⟨am_tin 345 rfl rfl, am_tin 3 (by decide +kernel) rfl, by decide +kernel, ⟨by decide +kernel, by decide +kernel⟩, by decide +kernel⟩
set_option maxRecDepth 100000 in
theorem mc_107 : am_mc am_GG md_107 := ⟨am_tin 529 rfl rfl, am_tin 3 (by decide +kernel) rfl, by decide +kernel, ⟨by decide +kernel, by decide +kernel⟩, by decide +kernel⟩
set_option maxRecDepth 100000 in
theorem mc_108 : am_mc am_GG md_108 := ⟨am_tin 18 rfl rfl, am_tin 1 (by decide +kernel) rfl, by decide +kernel, ⟨by decide +kernel, by decide +kernel⟩, by decide +kernel⟩
set_option maxRecDepth 100000 in
theorem mc_109 : am_mc am_GG md_109 := ⟨am_tin 287 rfl rfl, am_tin 1 (by decide +kernel) rfl, by decide +kernel, ⟨by decide +kernel, by decide +kernel⟩, by decide +kernel⟩
set_option maxRecDepth 100000 in
theorem mc_110 : am_mc am_GG md_110 := ⟨am_tin 312 rfl rfl, am_tin 1 (by decide +kernel) rfl, by decide +kernel, ⟨by decide +kernel, by decide +kernel⟩, by decide +kernel⟩
set_option maxRecDepth 100000 in
theorem mc_111 : am_mc am_GG md_111 := ⟨am_tin 316 rfl rfl, am_tin 1 (by decide +kernel) rfl, by decide +kernel, ⟨by decide +kernel, by decide +kernel⟩, by decide +kernel⟩
set_option maxRecDepth 100000 in
theorem mc_112 : am_mc am_GG md_112 := ⟨am_tin 324 rfl rfl, am_tin 1 (by decide +kernel) rfl, by decide +kernel, ⟨by decide +kernel, by decide +kernel⟩, by decide +kernel⟩
set_option maxRecDepth 100000 in
theorem mc_113 : am_mc am_GG md_113 := ⟨am_tin 662 rfl rfl, am_tin 1 (by decide +kernel) rfl, by decide +kernel, ⟨by decide +kernel, by decide +kernel⟩, by decide +kernel⟩
set_option maxRecDepth 100000 in
theorem mc_114 : am_mc am_GG md_114 := ⟨am_tin 676 rfl rfl, am_tin 1 (by decide +kernel) rfl, by decide +kernel, ⟨by decide +kernel, by decide +kernel⟩, by decide +kernel⟩
set_option maxRecDepth 100000 in
theorem mc_115 : am_mc am_GG md_115 := ⟨am_tin 680 rfl rfl, am_tin 1 (by decide +kernel) rfl, by decide +kernel, ⟨by decide +kernel, by decide +kernel⟩, by decide +kernel⟩
set_option maxRecDepth 100000 in
theorem mc_116 : am_mc am_GG md_116 := ⟨am_tin 684 rfl rfl, am_tin 1 (by decide +kernel) rfl, by decide +kernel, ⟨by decide +kernel, by decide +kernel⟩, by decide +kernel⟩
set_option maxRecDepth 100000 in
theorem mc_117 : am_mc am_GG md_117 := ⟨am_tin 700 rfl rfl, am_tin 1 (by decide +kernel) rfl, by decide +kernel, ⟨by decide +kernel, by decide +kernel⟩, by decide +kernel⟩
set_option maxRecDepth 100000 in
theorem mc_118 : am_mc am_GG md_118 := ⟨am_tin 704 rfl rfl, am_tin 1 (by decide +kernel) rfl, by decide +kernel, ⟨by decide +kernel, by decide +kernel⟩, by decide +kernel⟩
set_option maxRecDepth 100000 in
theorem mc_119 : am_mc am_GG md_119 := ⟨am_tin 710 rfl rfl, am_tin 1 (by decide +kernel) rfl, by decide +kernel, ⟨by decide +kernel, by decide +kernel⟩, by decide +kernel⟩
set_option maxRecDepth 100000 in
theorem mc_120 : am_mc am_GG md_120 := ⟨am_tin 714 rfl rfl, am_tin 1 (by decide +kernel) rfl, by decide +kernel, ⟨by decide +kernel, by decide +kernel⟩, by decide +kernel⟩
set_option maxRecDepth 100000 in
theorem mc_121 : am_mc am_GG md_121 := ⟨am_tin 718 rfl rfl, am_tin 1 (by decide +kernel) rfl, by decide +kernel, ⟨by decide +kernel, by decide +kernel⟩, by decide +kernel⟩
set_option maxRecDepth 100000 in
theorem mc_122 : am_mc am_GG md_122 := ⟨am_tin 738 rfl rfl, am_tin 1 (by decide +kernel) rfl, by decide +kernel, ⟨by decide +kernel, by decide +kernel⟩, by decide +kernel⟩
set_option maxRecDepth 100000 in
theorem mc_123 : am_mc am_GG md_123 := ⟨am_tin 744 rfl rfl, am_tin 1 (by decide +kernel) rfl, by decide +kernel, ⟨by decide +kernel, by decide +kernel⟩, by decide +kernel⟩
set_option maxRecDepth 100000 in
theorem mc_124 : am_mc am_GG md_124 := ⟨am_tin 748 rfl rfl, am_tin 1 (by decide +kernel) rfl, by decide +kernel, ⟨by decide +kernel, by decide +kernel⟩, by decide +kernel⟩
set_option maxRecDepth 100000 in
theorem mc_125 : am_mc am_GG md_125 := ⟨am_tin 774 rfl rfl, am_tin 1 (by decide +kernel) rfl, by decide +kernel, ⟨by decide +kernel, by decide +kernel⟩, by decide +kernel⟩
set_option maxRecDepth 100000 in
theorem mc_126 : am_mc am_GG md_126 := ⟨am_tin 328 rfl rfl, am_tin 1 (by decide +kernel) rfl, by decide +kernel, ⟨by decide +kernel, by decide +kernel⟩, by decide +kernel⟩
set_option maxRecDepth 100000 in
theorem mc_127 : am_mc am_GG md_127 := ⟨am_tin 557 rfl rfl, am_tin 1 (by decide +kernel) rfl, by decide +kernel, ⟨by decide +kernel, by decide +kernel⟩, by decide +kernel⟩
set_option maxRecDepth 100000 in
theorem mc_128 : am_mc am_GG md_128 := ⟨am_tin 726 rfl rfl, am_tin 1 (by decide +kernel) rfl, by decide +kernel, ⟨by decide +kernel, by decide +kernel⟩, by decide +kernel⟩
set_option maxRecDepth 100000 in
theorem mc_129 : am_mc am_GG md_129 := ⟨am_tin 722 rfl rfl, am_tin 1 (by decide +kernel) rfl, by decide +kernel, ⟨by decide +kernel, by decide +kernel⟩, by decide +kernel⟩
set_option maxRecDepth 100000 in
theorem mc_130 : am_mc am_GG md_130 := ⟨am_tin 787 rfl rfl, am_tin 10 (by decide +kernel) rfl, by decide +kernel, ⟨by decide +kernel, by decide +kernel⟩, by decide +kernel⟩
set_option maxRecDepth 100000 in
theorem mc_131 : am_mc am_GG md_131 := ⟨am_tin 907 rfl rfl, am_tin 10 (by decide +kernel) rfl, by decide +kernel, ⟨by decide +kernel, by decide +kernel⟩, by decide +kernel⟩
set_option maxRecDepth 100000 in
theorem mc_132 : am_mc am_GG md_132 := ⟨am_tin 904 rfl rfl, am_tin 10 (by decide +kernel) rfl, by decide +kernel, ⟨by decide +kernel, by decide +kernel⟩, by decide +kernel⟩
set_option maxRecDepth 100000 in
theorem mc_133 : am_mc am_GG md_133 := ⟨am_tin 911 rfl rfl, am_tin 10 (by decide +kernel) rfl, by decide +kernel, ⟨by decide +kernel, by decide +kernel⟩, by decide +kernel⟩
set_option maxRecDepth 100000 in
theorem mc_134 : am_mc am_GG md_134 := ⟨am_tin 915 rfl rfl, am_tin 10 (by decide +kernel) rfl, by decide +kernel, ⟨by decide +kernel, by decide +kernel⟩, by decide +kernel⟩
set_option maxRecDepth 100000 in
theorem mc_135 : am_mc am_GG md_135 := ⟨am_tin 919 rfl rfl, am_tin 10 (by decide +kernel) rfl, by decide +kernel, ⟨by decide +kernel, by decide +kernel⟩, by decide +kernel⟩
set_option maxRecDepth 100000 in
theorem mc_136 : am_mc am_GG md_136 := ⟨am_tin 927 rfl rfl, am_tin 10 (by decide +kernel) rfl, by decide +kernel, ⟨by decide +kernel, by decide +kernel⟩, by decide +kernel⟩
set_option maxRecDepth 100000 in
theorem mc_137 : am_mc am_GG md_137 := ⟨am_tin 953 rfl rfl, am_tin 10 (by decide +kernel) rfl, by decide +kernel, ⟨by decide +kernel, by decide +kernel⟩, by decide +kernel⟩
set_option maxRecDepth 100000 in
theorem mc_138 : am_mc am_GG md_138 := ⟨am_tin 950 rfl rfl, am_tin 10 (by decide +kernel) rfl, by decide +kernel, ⟨by decide +kernel, by decide +kernel⟩, by decide +kernel⟩
set_option maxRecDepth 100000 in
theorem mc_139 : am_mc am_GG md_139 := ⟨am_tin 957 rfl rfl, am_tin 10 (by decide +kernel) rfl, by decide +kernel, ⟨by decide +kernel, by decide +kernel⟩, by decide +kernel⟩
set_option maxRecDepth 100000 in
theorem mc_140 : am_mc am_GG md_140 := ⟨am_tin 939 rfl rfl, am_tin 10 (by decide +kernel) rfl, by decide +kernel, ⟨by decide +kernel, by decide +kernel⟩, by decide +kernel⟩
set_option maxRecDepth 100000 in
theorem mc_141 : am_mc am_GG md_141 := ⟨am_tin 931 rfl rfl, am_tin 10 (by decide +kernel) rfl, by decide +kernel, ⟨by decide +kernel, by decide +kernel⟩, by decide +kernel⟩
set_option maxRecDepth 100000 in
theorem mc_142 : am_mc am_GG md_142 := ⟨am_tin 935 rfl rfl, am_tin 10 (by decide +kernel) rfl, by decide +kernel, ⟨by decide +kernel, by decide +kernel⟩, by decide +kernel⟩
set_option maxRecDepth 100000 in
theorem mc_143 : am_mc am_GG md_143 := ⟨am_tin 943 rfl rfl, am_tin 10 (by decide +kernel) rfl, by decide +kernel, ⟨by decide +kernel, by decide +kernel⟩, by decide +kernel⟩
set_option maxRecDepth 100000 in
theorem mc_144 : am_mc am_GG md_144 := ⟨am_tin 947 rfl rfl, am_tin 10 (by decide +kernel) rfl, by decide +kernel, ⟨by decide +kernel, by decide +kernel⟩, by decide +kernel⟩
set_option maxRecDepth 100000 in
theorem mc_145 : am_mc am_GG md_145 := ⟨am_tin 983 rfl rfl, am_tin 10 (by decide +kernel) rfl, by decide +kernel, ⟨by decide +kernel, by decide +kernel⟩, by decide +kernel⟩
set_option maxRecDepth 100000 in
theorem mc_146 : am_mc am_GG md_146 := ⟨am_tin 999 rfl rfl, am_tin 10 (by decide +kernel) rfl, by decide +kernel, ⟨by decide +kernel, by decide +kernel⟩, by decide +kernel⟩
set_option maxRecDepth 100000 in
theorem mc_147 : am_mc am_GG md_147 := ⟨am_tin 1015 rfl rfl, am_tin 10 (by decide +kernel) rfl, by decide +kernel, ⟨by decide +kernel, by decide +kernel⟩, by decide +kernel⟩
set_option maxRecDepth 100000 in
theorem mc_148 : am_mc am_GG md_148 := ⟨am_tin 1027 rfl rfl, am_tin 10 (by decide +kernel) rfl, by decide +kernel, ⟨by decide +kernel, by decide +kernel⟩, by decide +kernel⟩
set_option maxRecDepth 100000 in
theorem mc_149 : am_mc am_GG md_149 := ⟨am_tin 995 rfl rfl, am_tin 10 (by decide +kernel) rfl, by decide +kernel, ⟨by decide +kernel, by decide +kernel⟩, by decide +kernel⟩
set_option maxRecDepth 100000 in
theorem mc_150 : am_mc am_GG md_150 := ⟨am_tin 1003 rfl rfl, am_tin 10 (by decide +kernel) rfl, by decide +kernel, ⟨by decide +kernel, by decide +kernel⟩, by decide +kernel⟩
set_option maxRecDepth 100000 in
theorem mc_151 : am_mc am_GG md_151 := ⟨am_tin 979 rfl rfl, am_tin 10 (by decide +kernel) rfl, by decide +kernel, ⟨by decide +kernel, by decide +kernel⟩, by decide +kernel⟩
set_option maxRecDepth 100000 in
theorem mc_152 : am_mc am_GG md_152 := ⟨am_tin 1023 rfl rfl, am_tin 10 (by decide +kernel) rfl, by decide +kernel, ⟨by decide +kernel, by decide +kernel⟩, by decide +kernel⟩
set_option maxRecDepth 100000 in
theorem mc_153 : am_mc am_GG md_153 := ⟨am_tin 975 rfl rfl, am_tin 10 (by decide +kernel) rfl, by decide +kernel, ⟨by decide +kernel, by decide +kernel⟩, by decide +kernel⟩
set_option maxRecDepth 100000 in
theorem mc_154 : am_mc am_GG md_154 := ⟨am_tin 987 rfl rfl, am_tin 10 (by decide +kernel) rfl, by decide +kernel, ⟨by decide +kernel, by decide +kernel⟩, by decide +kernel⟩
set_option maxRecDepth 100000 in
theorem mc_155 : am_mc am_GG md_155 := ⟨am_tin 991 rfl rfl, am_tin 10 (by decide +kernel) rfl, by decide +kernel, ⟨by decide +kernel, by decide +kernel⟩, by decide +kernel⟩
set_option maxRecDepth 100000 in
theorem mc_156 : am_mc am_GG md_156 := ⟨am_tin 1007 rfl rfl, am_tin 10 (by decide +kernel) rfl, by decide +kernel, ⟨by decide +kernel, by decide +kernel⟩, by decide +kernel⟩
set_option maxRecDepth 100000 in
theorem mc_157 : am_mc am_GG md_157 := ⟨am_tin 1011 rfl rfl, am_tin 10 (by decide +kernel) rfl, by decide +kernel, ⟨by decide +kernel, by decide +kernel⟩, by decide +kernel⟩
set_option maxRecDepth 100000 in
theorem mc_158 : am_mc am_GG md_158 := ⟨am_tin 1019 rfl rfl, am_tin 10 (by decide +kernel) rfl, by decide +kernel, ⟨by decide +kernel, by decide +kernel⟩, by decide +kernel⟩
set_option maxRecDepth 100000 in
theorem mc_159 : am_mc am_GG md_159 := ⟨am_tin 1031 rfl rfl, am_tin 10 (by decide +kernel) rfl, by decide +kernel, ⟨by decide +kernel, by decide +kernel⟩, by decide +kernel⟩
set_option maxRecDepth 100000 in
theorem mc_160 : am_mc am_GG md_160 := ⟨am_tin 1035 rfl rfl, am_tin 10 (by decide +kernel) rfl, by decide +kernel, ⟨by decide +kernel, by decide +kernel⟩, by decide +kernel⟩
set_option maxRecDepth 100000 in
theorem mc_161 : am_mc am_GG md_161 := ⟨am_tin 1039 rfl rfl, am_tin 10 (by decide +kernel) rfl, by decide +kernel, ⟨by decide +kernel, by decide +kernel⟩, by decide +kernel⟩
set_option maxRecDepth 100000 in
theorem mc_162 : am_mc am_GG md_162 := ⟨am_tin 1043 rfl rfl, am_tin 10 (by decide +kernel) rfl, by decide +kernel, ⟨by decide +kernel, by decide +kernel⟩, by decide +kernel⟩
set_option maxRecDepth 100000 in
theorem mc_163 : am_mc am_GG md_163 := ⟨am_tin 1047 rfl rfl, am_tin 10 (by decide +kernel) rfl, by decide +kernel, ⟨by decide +kernel, by decide +kernel⟩, by decide +kernel⟩
set_option maxRecDepth 100000 in
theorem mc_164 : am_mc am_GG md_164 := ⟨am_tin 1051 rfl rfl, am_tin 10 (by decide +kernel) rfl, by decide +kernel, ⟨by decide +kernel, by decide +kernel⟩, by decide +kernel⟩
set_option maxRecDepth 100000 in
theorem mc_165 : am_mc am_GG md_165 := ⟨am_tin 1071 rfl rfl, am_tin 10 (by decide +kernel) rfl, by decide +kernel, ⟨by decide +kernel, by decide +kernel⟩, by decide +kernel⟩
set_option maxRecDepth 100000 in
theorem mc_166 : am_mc am_GG md_166 := ⟨am_tin 1067 rfl rfl, am_tin 10 (by decide +kernel) rfl, by decide +kernel, ⟨by decide +kernel, by decide +kernel⟩, by decide +kernel⟩
set_option maxRecDepth 100000 in
theorem mc_167 : am_mc am_GG md_167 := ⟨am_tin 1075 rfl rfl, am_tin 10 (by decide +kernel) rfl, by decide +kernel, ⟨by decide +kernel, by decide +kernel⟩, by decide +kernel⟩
set_option maxRecDepth 100000 in
theorem mc_168 : am_mc am_GG md_168 := ⟨am_tin 1063 rfl rfl, am_tin 10 (by decide +kernel) rfl, by decide +kernel, ⟨by decide +kernel, by decide +kernel⟩, by decide +kernel⟩
set_option maxRecDepth 100000 in
theorem mc_169 : am_mc am_GG md_169 := ⟨am_tin 1055 rfl rfl, am_tin 10 (by decide +kernel) rfl, by decide +kernel, ⟨by decide +kernel, by decide +kernel⟩, by decide +kernel⟩
set_option maxRecDepth 100000 in
theorem mc_170 : am_mc am_GG md_170 := ⟨am_tin 1083 rfl rfl, am_tin 10 (by decide +kernel) rfl, by decide +kernel, ⟨by decide +kernel, by decide +kernel⟩, by decide +kernel⟩
set_option maxRecDepth 100000 in
theorem mc_171 : am_mc am_GG md_171 := ⟨am_tin 1167 rfl rfl, am_tin 10 (by decide +kernel) rfl, by decide +kernel, ⟨by decide +kernel, by decide +kernel⟩, by decide +kernel⟩
set_option maxRecDepth 100000 in
theorem mc_172 : am_mc am_GG md_172 := ⟨am_tin 1091 rfl rfl, am_tin 10 (by decide +kernel) rfl, by decide +kernel, ⟨by decide +kernel, by decide +kernel⟩, by decide +kernel⟩
set_option maxRecDepth 100000 in
theorem mc_173 : am_mc am_GG md_173 := ⟨am_tin 1079 rfl rfl, am_tin 10 (by decide +kernel) rfl, by decide +kernel, ⟨by decide +kernel, by decide +kernel⟩, by decide +kernel⟩
set_option maxRecDepth 100000 in
theorem mc_174 : am_mc am_GG md_174 := ⟨am_tin 1099 rfl rfl, am_tin 10 (by decide +kernel) rfl, by decide +kernel, ⟨by decide +kernel, by decide +kernel⟩, by decide +kernel⟩
set_option maxRecDepth 100000 in
theorem mc_175 : am_mc am_GG md_175 := ⟨am_tin 1087 rfl rfl, am_tin 10 (by decide +kernel) rfl, by decide +kernel, ⟨by decide +kernel, by decide +kernel⟩, by decide +kernel⟩
set_option maxRecDepth 100000 in
theorem mc_176 : am_mc am_GG md_176 := ⟨am_tin 1059 rfl rfl, am_tin 10 (by decide +kernel) rfl, by decide +kernel, ⟨by decide +kernel, by decide +kernel⟩, by decide +kernel⟩
set_option maxRecDepth 100000 in
theorem mc_177 : am_mc am_GG md_177 := ⟨am_tin 1095 rfl rfl, am_tin 10 (by decide +kernel) rfl, by decide +kernel, ⟨by decide +kernel, by decide +kernel⟩, by decide +kernel⟩
set_option maxRecDepth 100000 in
theorem mc_178 : am_mc am_GG md_178 := ⟨am_tin 1103 rfl rfl, am_tin 10 (by decide +kernel) rfl, by decide +kernel, ⟨by decide +kernel, by decide +kernel⟩, by decide +kernel⟩
set_option maxRecDepth 100000 in
theorem mc_179 : am_mc am_GG md_179 := ⟨am_tin 1159 rfl rfl, am_tin 10 (by decide +kernel) rfl, by decide +kernel, ⟨by decide +kernel, by decide +kernel⟩, by decide +kernel⟩
set_option maxRecDepth 100000 in
theorem mc_180 : am_mc am_GG md_180 := ⟨am_tin 1163 rfl rfl, am_tin 10 (by decide +kernel) rfl, by decide +kernel, ⟨by decide +kernel, by decide +kernel⟩, by decide +kernel⟩
set_option maxRecDepth 100000 in
theorem mc_181 : am_mc am_GG md_181 := ⟨am_tin 1155 rfl rfl, am_tin 10 (by decide +kernel) rfl, by decide +kernel, ⟨by decide +kernel, by decide +kernel⟩, by decide +kernel⟩
set_option maxRecDepth 100000 in
theorem mc_182 : am_mc am_GG md_182 := ⟨am_tin 1151 rfl rfl, am_tin 10 (by decide +kernel) rfl, by decide +kernel, ⟨by decide +kernel, by decide +kernel⟩, by decide +kernel⟩
set_option maxRecDepth 100000 in
theorem mc_183 : am_mc am_GG md_183 := ⟨am_tin 1147 rfl rfl, am_tin 10 (by decide +kernel) rfl, by decide +kernel, ⟨by decide +kernel, by decide +kernel⟩, by decide +kernel⟩
set_option maxRecDepth 100000 in
theorem mc_184 : am_mc am_GG md_184 := ⟨am_tin 1175 rfl rfl, am_tin 10 (by decide +kernel) rfl, by decide +kernel, ⟨by decide +kernel, by decide +kernel⟩, by decide +kernel⟩
set_option maxRecDepth 100000 in
theorem mc_185 : am_mc am_GG md_185 := ⟨am_tin 923 rfl rfl, am_tin 10 (by decide +kernel) rfl, by decide +kernel, ⟨by decide +kernel, by decide +kernel⟩, by decide +kernel⟩
set_option maxRecDepth 100000 in
theorem mc_186 : am_mc am_GG md_186 := ⟨am_tin 1107 rfl rfl, am_tin 10 (by decide +kernel) rfl, by decide +kernel, ⟨by decide +kernel, by decide +kernel⟩, by decide +kernel⟩
set_option maxRecDepth 100000 in
theorem mc_187 : am_mc am_GG md_187 := ⟨am_tin 1111 rfl rfl, am_tin 10 (by decide +kernel) rfl, by decide +kernel, ⟨by decide +kernel, by decide +kernel⟩, by decide +kernel⟩
set_option maxRecDepth 100000 in
theorem mc_188 : am_mc am_GG md_188 := ⟨am_tin 1115 rfl rfl, am_tin 10 (by decide +kernel) rfl, by decide +kernel, ⟨by decide +kernel, by decide +kernel⟩, by decide +kernel⟩
set_option maxRecDepth 100000 in
theorem mc_189 : am_mc am_GG md_189 := ⟨am_tin 1119 rfl rfl, am_tin 10 (by decide +kernel) rfl, by decide +kernel, ⟨by decide +kernel, by decide +kernel⟩, by decide +kernel⟩
set_option maxRecDepth 100000 in
theorem mc_190 : am_mc am_GG md_190 := ⟨am_tin 1123 rfl rfl, am_tin 10 (by decide +kernel) rfl, by decide +kernel, ⟨by decide +kernel, by decide +kernel⟩, by decide +kernel⟩
set_option maxRecDepth 100000 in
theorem mc_191 : am_mc am_GG md_191 := ⟨am_tin 1127 rfl rfl, am_tin 10 (by decide +kernel) rfl, by decide +kernel, ⟨by decide +kernel, by decide +kernel⟩, by decide +kernel⟩
set_option maxRecDepth 100000 in
theorem mc_192 : am_mc am_GG md_192 := ⟨am_tin 1131 rfl rfl, am_tin 10 (by decide +kernel) rfl, by decide +kernel, ⟨by decide +kernel, by decide +kernel⟩, by decide +kernel⟩
set_option maxRecDepth 100000 in
theorem mc_193 : am_mc am_GG md_193 := ⟨am_tin 1135 rfl rfl, am_tin 10 (by decide +kernel) rfl, by decide +kernel, ⟨by decide +kernel, by decide +kernel⟩, by decide +kernel⟩
set_option maxRecDepth 100000 in
theorem mc_194 : am_mc am_GG md_194 := ⟨am_tin 1139 rfl rfl, am_tin 10 (by decide +kernel) rfl, by decide +kernel, ⟨by decide +kernel, by decide +kernel⟩, by decide +kernel⟩
set_option maxRecDepth 100000 in
theorem mc_195 : am_mc am_GG md_195 := ⟨am_tin 1143 rfl rfl, am_tin 10 (by decide +kernel) rfl, by decide +kernel, ⟨by decide +kernel, by decide +kernel⟩, by decide +kernel⟩
set_option maxRecDepth 100000 in
theorem mc_196 : am_mc am_GG md_196 := ⟨am_tin 1171 rfl rfl, am_tin 10 (by decide +kernel) rfl, by decide +kernel, ⟨by decide +kernel, by decide +kernel⟩, by decide +kernel⟩
set_option maxRecDepth 100000 in
theorem mc_197 : am_mc am_GG md_197 := ⟨am_tin 1179 rfl rfl, am_tin 10 (by decide +kernel) rfl, by decide +kernel, ⟨by decide +kernel, by decide +kernel⟩, by decide +kernel⟩
set_option maxRecDepth 100000 in
theorem mc_198 : am_mc am_GG md_198 := ⟨am_tin 1186 rfl rfl, am_tin 10 (by decide +kernel) rfl, by decide +kernel, ⟨by decide +kernel, by decide +kernel⟩, by decide +kernel⟩
set_option maxRecDepth 100000 in
theorem mc_199 : am_mc am_GG md_199 := ⟨am_tin 1190 rfl rfl, am_tin 10 (by decide +kernel) rfl, by decide +kernel, ⟨by decide +kernel, by decide +kernel⟩, by decide +kernel⟩
set_option maxRecDepth 100000 in
theorem mc_200 : am_mc am_GG md_200 := ⟨am_tin 1183 rfl rfl, am_tin 10 (by decide +kernel) rfl, by decide +kernel, ⟨by decide +kernel, by decide +kernel⟩, by decide +kernel⟩
set_option maxRecDepth 100000 in
theorem mc_201 : am_mc am_GG md_201 := ⟨am_tin 1194 rfl rfl, am_tin 10 (by decide +kernel) rfl, by decide +kernel, ⟨by decide +kernel, by decide +kernel⟩, by decide +kernel⟩
theorem uw_0 : ∀ w ∈ u_ws "BindingServer" fd_0 9, w ∈ am_GG := by
  intro w hw
  obtain ⟨k, hk, rfl⟩ := List.mem_map.mp hw
  have hk := List.mem_range.mp hk
  match k, hk with
  | 0, _ => exact am_tin 265 (by decide +kernel) (by decide +kernel)
  | 1, _ => exact am_tin 267 (by decide +kernel) (by decide +kernel)
  | 2, _ => exact am_tin 269 (by decide +kernel) (by decide +kernel)
  | 3, _ => exact am_tin 271 (by decide +kernel) (by decide +kernel)
  | 4, _ => exact am_tin 273 (by decide +kernel) (by decide +kernel)
  | 5, _ => exact am_tin 275 (by decide +kernel) (by decide +kernel)
  | 6, _ => exact am_tin 277 (by decide +kernel) (by decide +kernel)
  | 7, _ => exact am_tin 279 (by decide +kernel) (by decide +kernel)
  | 8, _ => exact am_tin 281 (by decide +kernel) (by decide +kernel)
  | k + 9, hk => exact absurd hk (by omega)
theorem cz_0 (xs : Option (List Int32)) : am_co (am_CX xs) am_GG 0 ("BindingServer", fd_0, 9) := ⟨uw_0, (by decide +kernel : ∀ k, k < 9 → parseFieldDescriptor (fd_0 k).2.2.1 = some (am_ty 0 k)), (by decide +kernel : ∀ a, a < 9 → ∀ b, b < 9 → a ≠ b → (fd_0 a).2.1 ≠ (fd_0 b).2.1), am_tin 15 (by decide +kernel) rfl, am_tin 1 (by decide +kernel) rfl, (by decide +kernel : ∀ k, k < 9 → (fd_0 k).1 = "BindingServer")⟩
theorem uw_1 : ∀ w ∈ u_ws "BindingServer$Text" fd_1 2, w ∈ am_GG := by
  intro w hw
  obtain ⟨k, hk, rfl⟩ := List.mem_map.mp hw
  have hk := List.mem_range.mp hk
  match k, hk with
  | 0, _ => exact am_tin 34 (by decide +kernel) (by decide +kernel)
  | 1, _ => exact am_tin 36 (by decide +kernel) (by decide +kernel)
  | k + 2, hk => exact absurd hk (by omega)
theorem cz_1 (xs : Option (List Int32)) : am_co (am_CX xs) am_GG 1 ("BindingServer$Text", fd_1, 2) := ⟨uw_1, (by decide +kernel : ∀ k, k < 2 → parseFieldDescriptor (fd_1 k).2.2.1 = some (am_ty 1 k)), (by decide +kernel : ∀ a, a < 2 → ∀ b, b < 2 → a ≠ b → (fd_1 a).2.1 ≠ (fd_1 b).2.1), am_tin 23 (by decide +kernel) rfl, am_tin 2 (by decide +kernel) rfl, (by decide +kernel : ∀ k, k < 2 → (fd_1 k).1 = "BindingServer$Text")⟩
theorem uw_2 : ∀ w ∈ u_ws "BindingServer$Tokens" fd_2 8, w ∈ am_GG := by
  intro w hw
  obtain ⟨k, hk, rfl⟩ := List.mem_map.mp hw
  have hk := List.mem_range.mp hk
  match k, hk with
  | 0, _ => exact am_tin 59 (by decide +kernel) (by decide +kernel)
  | 1, _ => exact am_tin 61 (by decide +kernel) (by decide +kernel)
  | 2, _ => exact am_tin 63 (by decide +kernel) (by decide +kernel)
  | 3, _ => exact am_tin 65 (by decide +kernel) (by decide +kernel)
  | 4, _ => exact am_tin 67 (by decide +kernel) (by decide +kernel)
  | 5, _ => exact am_tin 69 (by decide +kernel) (by decide +kernel)
  | 6, _ => exact am_tin 71 (by decide +kernel) (by decide +kernel)
  | 7, _ => exact am_tin 73 (by decide +kernel) (by decide +kernel)
  | k + 8, hk => exact absurd hk (by omega)
theorem cz_2 (xs : Option (List Int32)) : am_co (am_CX xs) am_GG 2 ("BindingServer$Tokens", fd_2, 8) := ⟨uw_2, (by decide +kernel : ∀ k, k < 8 → parseFieldDescriptor (fd_2 k).2.2.1 = some (am_ty 2 k)), (by decide +kernel : ∀ a, a < 8 → ∀ b, b < 8 → a ≠ b → (fd_2 a).2.1 ≠ (fd_2 b).2.1), am_tin 41 (by decide +kernel) rfl, am_tin 3 (by decide +kernel) rfl, (by decide +kernel : ∀ k, k < 8 → (fd_2 k).1 = "BindingServer$Tokens")⟩
theorem uw_3 : ∀ w ∈ u_ws "BindingServer$Extents" fd_3 3, w ∈ am_GG := by
  intro w hw
  obtain ⟨k, hk, rfl⟩ := List.mem_map.mp hw
  have hk := List.mem_range.mp hk
  match k, hk with
  | 0, _ => exact am_tin 87 (by decide +kernel) (by decide +kernel)
  | 1, _ => exact am_tin 89 (by decide +kernel) (by decide +kernel)
  | 2, _ => exact am_tin 91 (by decide +kernel) (by decide +kernel)
  | k + 3, hk => exact absurd hk (by omega)
theorem cz_3 (xs : Option (List Int32)) : am_co (am_CX xs) am_GG 3 ("BindingServer$Extents", fd_3, 3) := ⟨uw_3, (by decide +kernel : ∀ k, k < 3 → parseFieldDescriptor (fd_3 k).2.2.1 = some (am_ty 3 k)), (by decide +kernel : ∀ a, a < 3 → ∀ b, b < 3 → a ≠ b → (fd_3 a).2.1 ≠ (fd_3 b).2.1), am_tin 78 (by decide +kernel) rfl, am_tin 4 (by decide +kernel) rfl, (by decide +kernel : ∀ k, k < 3 → (fd_3 k).1 = "BindingServer$Extents")⟩
theorem uw_4 : ∀ w ∈ u_ws "BindingServer$Scopes" fd_4 4, w ∈ am_GG := by
  intro w hw
  obtain ⟨k, hk, rfl⟩ := List.mem_map.mp hw
  have hk := List.mem_range.mp hk
  match k, hk with
  | 0, _ => exact am_tin 106 (by decide +kernel) (by decide +kernel)
  | 1, _ => exact am_tin 108 (by decide +kernel) (by decide +kernel)
  | 2, _ => exact am_tin 110 (by decide +kernel) (by decide +kernel)
  | 3, _ => exact am_tin 112 (by decide +kernel) (by decide +kernel)
  | k + 4, hk => exact absurd hk (by omega)
theorem cz_4 (xs : Option (List Int32)) : am_co (am_CX xs) am_GG 4 ("BindingServer$Scopes", fd_4, 4) := ⟨uw_4, (by decide +kernel : ∀ k, k < 4 → parseFieldDescriptor (fd_4 k).2.2.1 = some (am_ty 4 k)), (by decide +kernel : ∀ a, a < 4 → ∀ b, b < 4 → a ≠ b → (fd_4 a).2.1 ≠ (fd_4 b).2.1), am_tin 95 (by decide +kernel) rfl, am_tin 5 (by decide +kernel) rfl, (by decide +kernel : ∀ k, k < 4 → (fd_4 k).1 = "BindingServer$Scopes")⟩
theorem uw_5 : ∀ w ∈ u_ws "BindingServer$Occurrences" fd_5 9, w ∈ am_GG := by
  intro w hw
  obtain ⟨k, hk, rfl⟩ := List.mem_map.mp hw
  have hk := List.mem_range.mp hk
  match k, hk with
  | 0, _ => exact am_tin 142 (by decide +kernel) (by decide +kernel)
  | 1, _ => exact am_tin 144 (by decide +kernel) (by decide +kernel)
  | 2, _ => exact am_tin 146 (by decide +kernel) (by decide +kernel)
  | 3, _ => exact am_tin 148 (by decide +kernel) (by decide +kernel)
  | 4, _ => exact am_tin 150 (by decide +kernel) (by decide +kernel)
  | 5, _ => exact am_tin 152 (by decide +kernel) (by decide +kernel)
  | 6, _ => exact am_tin 154 (by decide +kernel) (by decide +kernel)
  | 7, _ => exact am_tin 156 (by decide +kernel) (by decide +kernel)
  | 8, _ => exact am_tin 158 (by decide +kernel) (by decide +kernel)
  | k + 9, hk => exact absurd hk (by omega)
theorem cz_5 (xs : Option (List Int32)) : am_co (am_CX xs) am_GG 5 ("BindingServer$Occurrences", fd_5, 9) := ⟨uw_5, (by decide +kernel : ∀ k, k < 9 → parseFieldDescriptor (fd_5 k).2.2.1 = some (am_ty 5 k)), (by decide +kernel : ∀ a, a < 9 → ∀ b, b < 9 → a ≠ b → (fd_5 a).2.1 ≠ (fd_5 b).2.1), am_tin 116 (by decide +kernel) rfl, am_tin 6 (by decide +kernel) rfl, (by decide +kernel : ∀ k, k < 9 → (fd_5 k).1 = "BindingServer$Occurrences")⟩
theorem uw_6 : ∀ w ∈ u_ws "BindingServer$Parser" fd_6 13, w ∈ am_GG := by
  intro w hw
  obtain ⟨k, hk, rfl⟩ := List.mem_map.mp hw
  have hk := List.mem_range.mp hk
  match k, hk with
  | 0, _ => exact am_tin 183 (by decide +kernel) (by decide +kernel)
  | 1, _ => exact am_tin 185 (by decide +kernel) (by decide +kernel)
  | 2, _ => exact am_tin 187 (by decide +kernel) (by decide +kernel)
  | 3, _ => exact am_tin 189 (by decide +kernel) (by decide +kernel)
  | 4, _ => exact am_tin 191 (by decide +kernel) (by decide +kernel)
  | 5, _ => exact am_tin 193 (by decide +kernel) (by decide +kernel)
  | 6, _ => exact am_tin 195 (by decide +kernel) (by decide +kernel)
  | 7, _ => exact am_tin 197 (by decide +kernel) (by decide +kernel)
  | 8, _ => exact am_tin 199 (by decide +kernel) (by decide +kernel)
  | 9, _ => exact am_tin 201 (by decide +kernel) (by decide +kernel)
  | 10, _ => exact am_tin 203 (by decide +kernel) (by decide +kernel)
  | 11, _ => exact am_tin 205 (by decide +kernel) (by decide +kernel)
  | 12, _ => exact am_tin 207 (by decide +kernel) (by decide +kernel)
  | k + 13, hk => exact absurd hk (by omega)
theorem cz_6 (xs : Option (List Int32)) : am_co (am_CX xs) am_GG 6 ("BindingServer$Parser", fd_6, 13) := ⟨uw_6, (by decide +kernel : ∀ k, k < 13 → parseFieldDescriptor (fd_6 k).2.2.1 = some (am_ty 6 k)), (by decide +kernel : ∀ a, a < 13 → ∀ b, b < 13 → a ≠ b → (fd_6 a).2.1 ≠ (fd_6 b).2.1), am_tin 162 (by decide +kernel) rfl, am_tin 7 (by decide +kernel) rfl, (by decide +kernel : ∀ k, k < 13 → (fd_6 k).1 = "BindingServer$Parser")⟩
theorem uw_7 : ∀ w ∈ u_ws "BindingServer$Binder" fd_7 5, w ∈ am_GG := by
  intro w hw
  obtain ⟨k, hk, rfl⟩ := List.mem_map.mp hw
  have hk := List.mem_range.mp hk
  match k, hk with
  | 0, _ => exact am_tin 223 (by decide +kernel) (by decide +kernel)
  | 1, _ => exact am_tin 225 (by decide +kernel) (by decide +kernel)
  | 2, _ => exact am_tin 227 (by decide +kernel) (by decide +kernel)
  | 3, _ => exact am_tin 229 (by decide +kernel) (by decide +kernel)
  | 4, _ => exact am_tin 231 (by decide +kernel) (by decide +kernel)
  | k + 5, hk => exact absurd hk (by omega)
theorem cz_7 (xs : Option (List Int32)) : am_co (am_CX xs) am_GG 7 ("BindingServer$Binder", fd_7, 5) := ⟨uw_7, (by decide +kernel : ∀ k, k < 5 → parseFieldDescriptor (fd_7 k).2.2.1 = some (am_ty 7 k)), (by decide +kernel : ∀ a, a < 5 → ∀ b, b < 5 → a ≠ b → (fd_7 a).2.1 ≠ (fd_7 b).2.1), am_tin 211 (by decide +kernel) rfl, am_tin 8 (by decide +kernel) rfl, (by decide +kernel : ∀ k, k < 5 → (fd_7 k).1 = "BindingServer$Binder")⟩
theorem uw_8 : ∀ w ∈ u_ws "BindingServer$Snapshot" fd_8 5, w ∈ am_GG := by
  intro w hw
  obtain ⟨k, hk, rfl⟩ := List.mem_map.mp hw
  have hk := List.mem_range.mp hk
  match k, hk with
  | 0, _ => exact am_tin 245 (by decide +kernel) (by decide +kernel)
  | 1, _ => exact am_tin 247 (by decide +kernel) (by decide +kernel)
  | 2, _ => exact am_tin 249 (by decide +kernel) (by decide +kernel)
  | 3, _ => exact am_tin 251 (by decide +kernel) (by decide +kernel)
  | 4, _ => exact am_tin 253 (by decide +kernel) (by decide +kernel)
  | k + 5, hk => exact absurd hk (by omega)
theorem cz_8 (xs : Option (List Int32)) : am_co (am_CX xs) am_GG 8 ("BindingServer$Snapshot", fd_8, 5) := ⟨uw_8, (by decide +kernel : ∀ k, k < 5 → parseFieldDescriptor (fd_8 k).2.2.1 = some (am_ty 8 k)), (by decide +kernel : ∀ a, a < 5 → ∀ b, b < 5 → a ≠ b → (fd_8 a).2.1 ≠ (fd_8 b).2.1), am_tin 235 (by decide +kernel) rfl, am_tin 9 (by decide +kernel) rfl, (by decide +kernel : ∀ k, k < 5 → (fd_8 k).1 = "BindingServer$Snapshot")⟩
theorem uw_9 : ∀ w ∈ u_ws "BindingServerModel" fd_9 37, w ∈ am_GG := by
  intro w hw
  obtain ⟨k, hk, rfl⟩ := List.mem_map.mp hw
  have hk := List.mem_range.mp hk
  match k, hk with
  | 0, _ => exact am_tin 826 (by decide +kernel) (by decide +kernel)
  | 1, _ => exact am_tin 828 (by decide +kernel) (by decide +kernel)
  | 2, _ => exact am_tin 830 (by decide +kernel) (by decide +kernel)
  | 3, _ => exact am_tin 832 (by decide +kernel) (by decide +kernel)
  | 4, _ => exact am_tin 834 (by decide +kernel) (by decide +kernel)
  | 5, _ => exact am_tin 836 (by decide +kernel) (by decide +kernel)
  | 6, _ => exact am_tin 838 (by decide +kernel) (by decide +kernel)
  | 7, _ => exact am_tin 840 (by decide +kernel) (by decide +kernel)
  | 8, _ => exact am_tin 842 (by decide +kernel) (by decide +kernel)
  | 9, _ => exact am_tin 844 (by decide +kernel) (by decide +kernel)
  | 10, _ => exact am_tin 846 (by decide +kernel) (by decide +kernel)
  | 11, _ => exact am_tin 848 (by decide +kernel) (by decide +kernel)
  | 12, _ => exact am_tin 850 (by decide +kernel) (by decide +kernel)
  | 13, _ => exact am_tin 852 (by decide +kernel) (by decide +kernel)
  | 14, _ => exact am_tin 854 (by decide +kernel) (by decide +kernel)
  | 15, _ => exact am_tin 856 (by decide +kernel) (by decide +kernel)
  | 16, _ => exact am_tin 858 (by decide +kernel) (by decide +kernel)
  | 17, _ => exact am_tin 860 (by decide +kernel) (by decide +kernel)
  | 18, _ => exact am_tin 862 (by decide +kernel) (by decide +kernel)
  | 19, _ => exact am_tin 864 (by decide +kernel) (by decide +kernel)
  | 20, _ => exact am_tin 866 (by decide +kernel) (by decide +kernel)
  | 21, _ => exact am_tin 868 (by decide +kernel) (by decide +kernel)
  | 22, _ => exact am_tin 870 (by decide +kernel) (by decide +kernel)
  | 23, _ => exact am_tin 872 (by decide +kernel) (by decide +kernel)
  | 24, _ => exact am_tin 874 (by decide +kernel) (by decide +kernel)
  | 25, _ => exact am_tin 876 (by decide +kernel) (by decide +kernel)
  | 26, _ => exact am_tin 878 (by decide +kernel) (by decide +kernel)
  | 27, _ => exact am_tin 880 (by decide +kernel) (by decide +kernel)
  | 28, _ => exact am_tin 882 (by decide +kernel) (by decide +kernel)
  | 29, _ => exact am_tin 884 (by decide +kernel) (by decide +kernel)
  | 30, _ => exact am_tin 886 (by decide +kernel) (by decide +kernel)
  | 31, _ => exact am_tin 888 (by decide +kernel) (by decide +kernel)
  | 32, _ => exact am_tin 890 (by decide +kernel) (by decide +kernel)
  | 33, _ => exact am_tin 892 (by decide +kernel) (by decide +kernel)
  | 34, _ => exact am_tin 894 (by decide +kernel) (by decide +kernel)
  | 35, _ => exact am_tin 896 (by decide +kernel) (by decide +kernel)
  | 36, _ => exact am_tin 898 (by decide +kernel) (by decide +kernel)
  | k + 37, hk => exact absurd hk (by omega)
theorem cz_9 (xs : Option (List Int32)) : am_co (am_CX xs) am_GG 9 ("BindingServerModel", fd_9, 37) := ⟨uw_9, (by decide +kernel : ∀ k, k < 37 → parseFieldDescriptor (fd_9 k).2.2.1 = some (am_ty 9 k)), (by decide +kernel : ∀ a, a < 37 → ∀ b, b < 37 → a ≠ b → (fd_9 a).2.1 ≠ (fd_9 b).2.1), am_tin 784 (by decide +kernel) rfl, am_tin 10 (by decide +kernel) rfl, (by decide +kernel : ∀ k, k < 37 → (fd_9 k).1 = "BindingServerModel")⟩
set_option maxRecDepth 100000 in
theorem am_gog : am_go am_GG := ⟨fun w hw => good_of_word (List.mem_filter.mp hw).2, am_tin 20 (by decide +kernel) rfl, am_tin 21 (by decide +kernel) rfl, am_tin 399 (by decide +kernel) rfl, am_tin 13 (by decide +kernel) rfl, am_tin 400 (by decide +kernel) rfl, am_tin 307 (by decide +kernel) rfl, am_tin 306 (by decide +kernel) rfl, am_tin 12 (by decide +kernel) rfl, am_tin 76 (by decide +kernel) rfl, am_tin 39 (by decide +kernel) rfl⟩
end
section
theorem de_0 : ∀ q ∈ tb_0, decode code q.1 = .ok (q.2.1, q.2.2.1) := by decide +kernel
theorem lb_0 : tb_0.all (fun q => am_lb am_C0 tables_1 am_K md_0 q.1 q.2.1 q.2.2.1 q.2.2.2) = true := by decide +kernel
theorem de_1 : ∀ q ∈ tb_1, decode prog_2_method_1_code q.1 = .ok (q.2.1, q.2.2.1) := by decide +kernel
theorem lb_1 : tb_1.all (fun q => am_lb am_C0 tables_1 am_K md_1 q.1 q.2.1 q.2.2.1 q.2.2.2) = true := by decide +kernel
theorem de_2 : ∀ q ∈ tb_2, decode prog_2_method_2_code q.1 = .ok (q.2.1, q.2.2.1) := by decide +kernel
theorem lb_2 : tb_2.all (fun q => am_lb am_C0 tables_1 am_K md_2 q.1 q.2.1 q.2.2.1 q.2.2.2) = true := by decide +kernel
theorem de_3 : ∀ q ∈ tb_3, decode prog_2_method_3_code q.1 = .ok (q.2.1, q.2.2.1) := by decide +kernel
theorem lb_3 : tb_3.all (fun q => am_lb am_C0 tables_1 am_K md_3 q.1 q.2.1 q.2.2.1 q.2.2.2) = true := by decide +kernel
theorem de_4 : ∀ q ∈ tb_4, decode prog_2_method_4_code q.1 = .ok (q.2.1, q.2.2.1) := by decide +kernel
theorem lb_4 : tb_4.all (fun q => am_lb am_C0 tables_1 am_K md_4 q.1 q.2.1 q.2.2.1 q.2.2.2) = true := by decide +kernel
theorem de_5 : ∀ q ∈ tb_5, decode prog_2_method_5_code q.1 = .ok (q.2.1, q.2.2.1) := by decide +kernel
theorem lb_5 : tb_5.all (fun q => am_lb am_C0 tables_1 am_K md_5 q.1 q.2.1 q.2.2.1 q.2.2.2) = true := by decide +kernel
theorem de_6 : ∀ q ∈ tb_6, decode prog_2_method_6_code q.1 = .ok (q.2.1, q.2.2.1) := by decide +kernel
theorem lb_6 : tb_6.all (fun q => am_lb am_C0 tables_1 am_K md_6 q.1 q.2.1 q.2.2.1 q.2.2.2) = true := by decide +kernel
theorem de_7 : ∀ q ∈ tb_7, decode prog_2_method_7_code q.1 = .ok (q.2.1, q.2.2.1) := by decide +kernel
theorem lb_7 : tb_7.all (fun q => am_lb am_C0 tables_1 am_K md_7 q.1 q.2.1 q.2.2.1 q.2.2.2) = true := by decide +kernel
theorem de_8 : ∀ q ∈ tb_8, decode prog_2_method_8_code q.1 = .ok (q.2.1, q.2.2.1) := by decide +kernel
theorem lb_8 : tb_8.all (fun q => am_lb am_C0 tables_1 am_K md_8 q.1 q.2.1 q.2.2.1 q.2.2.2) = true := by decide +kernel
theorem de_9 : ∀ q ∈ tb_9, decode prog_2_method_9_code q.1 = .ok (q.2.1, q.2.2.1) := by decide +kernel
theorem lb_9 : tb_9.all (fun q => am_lb am_C0 tables_1 am_K md_9 q.1 q.2.1 q.2.2.1 q.2.2.2) = true := by decide +kernel
theorem de_10 : ∀ q ∈ tb_10, decode prog_2_method_10_code q.1 = .ok (q.2.1, q.2.2.1) := by decide +kernel
theorem lb_10 : tb_10.all (fun q => am_lb am_C0 tables_1 am_K md_10 q.1 q.2.1 q.2.2.1 q.2.2.2) = true := by decide +kernel
theorem de_11 : ∀ q ∈ tb_11, decode prog_2_method_11_code q.1 = .ok (q.2.1, q.2.2.1) := by decide +kernel
theorem lb_11 : tb_11.all (fun q => am_lb am_C0 tables_1 am_K md_11 q.1 q.2.1 q.2.2.1 q.2.2.2) = true := by decide +kernel
theorem de_12 : ∀ q ∈ tb_12, decode prog_2_method_12_code q.1 = .ok (q.2.1, q.2.2.1) := by decide +kernel
theorem lb_12 : tb_12.all (fun q => am_lb am_C0 tables_1 am_K md_12 q.1 q.2.1 q.2.2.1 q.2.2.2) = true := by decide +kernel
theorem de_13 : ∀ q ∈ tb_13, decode prog_2_method_13_code q.1 = .ok (q.2.1, q.2.2.1) := by decide +kernel
theorem lb_13 : tb_13.all (fun q => am_lb am_C0 tables_1 am_K md_13 q.1 q.2.1 q.2.2.1 q.2.2.2) = true := by decide +kernel
theorem de_14 : ∀ q ∈ tb_14, decode prog_2_method_14_code q.1 = .ok (q.2.1, q.2.2.1) := by decide +kernel
theorem lb_14 : tb_14.all (fun q => am_lb am_C0 tables_1 am_K md_14 q.1 q.2.1 q.2.2.1 q.2.2.2) = true := by decide +kernel
theorem de_15 : ∀ q ∈ tb_15, decode prog_2_method_15_code q.1 = .ok (q.2.1, q.2.2.1) := by decide +kernel
theorem lb_15 : tb_15.all (fun q => am_lb am_C0 tables_1 am_K md_15 q.1 q.2.1 q.2.2.1 q.2.2.2) = true := by decide +kernel
theorem de_16 : ∀ q ∈ tb_16, decode prog_2_method_16_code q.1 = .ok (q.2.1, q.2.2.1) := by decide +kernel
theorem lb_16 : tb_16.all (fun q => am_lb am_C0 tables_1 am_K md_16 q.1 q.2.1 q.2.2.1 q.2.2.2) = true := by decide +kernel
theorem de_17 : ∀ q ∈ tb_17, decode prog_2_method_17_code q.1 = .ok (q.2.1, q.2.2.1) := by decide +kernel
theorem lb_17 : tb_17.all (fun q => am_lb am_C0 tables_1 am_K md_17 q.1 q.2.1 q.2.2.1 q.2.2.2) = true := by decide +kernel
theorem de_18 : ∀ q ∈ tb_18, decode prog_2_method_18_code q.1 = .ok (q.2.1, q.2.2.1) := by decide +kernel
theorem lb_18 : tb_18.all (fun q => am_lb am_C0 tables_1 am_K md_18 q.1 q.2.1 q.2.2.1 q.2.2.2) = true := by decide +kernel
theorem de_19 : ∀ q ∈ tb_19, decode prog_3_method_2_code q.1 = .ok (q.2.1, q.2.2.1) := by decide +kernel
theorem lb_19 : tb_19.all (fun q => am_lb am_C0 tables_1 am_K md_19 q.1 q.2.1 q.2.2.1 q.2.2.2) = true := by decide +kernel
theorem de_20 : ∀ q ∈ tb_20, decode prog_3_method_3_code q.1 = .ok (q.2.1, q.2.2.1) := by decide +kernel
theorem lb_20 : tb_20.all (fun q => am_lb am_C0 tables_1 am_K md_20 q.1 q.2.1 q.2.2.1 q.2.2.2) = true := by decide +kernel
theorem de_21 : ∀ q ∈ tb_21, decode prog_3_method_4_code q.1 = .ok (q.2.1, q.2.2.1) := by decide +kernel
theorem lb_21 : tb_21.all (fun q => am_lb am_C0 tables_1 am_K md_21 q.1 q.2.1 q.2.2.1 q.2.2.2) = true := by decide +kernel
theorem de_22 : ∀ q ∈ tb_22, decode prog_3_method_5_code q.1 = .ok (q.2.1, q.2.2.1) := by decide +kernel
theorem lb_22 : tb_22.all (fun q => am_lb am_C0 tables_1 am_K md_22 q.1 q.2.1 q.2.2.1 q.2.2.2) = true := by decide +kernel
theorem de_23 : ∀ q ∈ tb_23, decode prog_4_method_1_code q.1 = .ok (q.2.1, q.2.2.1) := by decide +kernel
theorem lb_23 : tb_23.all (fun q => am_lb am_C0 tables_1 am_K md_23 q.1 q.2.1 q.2.2.1 q.2.2.2) = true := by decide +kernel
theorem de_24 : ∀ q ∈ tb_24, decode prog_4_method_2_code q.1 = .ok (q.2.1, q.2.2.1) := by decide +kernel
theorem lb_24 : tb_24.all (fun q => am_lb am_C0 tables_1 am_K md_24 q.1 q.2.1 q.2.2.1 q.2.2.2) = true := by decide +kernel
theorem de_25 : ∀ q ∈ tb_25, decode prog_4_method_3_code q.1 = .ok (q.2.1, q.2.2.1) := by decide +kernel
theorem lb_25 : tb_25.all (fun q => am_lb am_C0 tables_1 am_K md_25 q.1 q.2.1 q.2.2.1 q.2.2.2) = true := by decide +kernel
theorem de_26 : ∀ q ∈ tb_26, decode prog_4_method_4_code q.1 = .ok (q.2.1, q.2.2.1) := by decide +kernel
theorem lb_26 : tb_26.all (fun q => am_lb am_C0 tables_1 am_K md_26 q.1 q.2.1 q.2.2.1 q.2.2.2) = true := by decide +kernel
theorem de_27 : ∀ q ∈ tb_27, decode prog_4_method_5_code q.1 = .ok (q.2.1, q.2.2.1) := by decide +kernel
theorem lb_27 : tb_27.all (fun q => am_lb am_C0 tables_1 am_K md_27 q.1 q.2.1 q.2.2.1 q.2.2.2) = true := by decide +kernel
theorem de_28 : ∀ q ∈ tb_28, decode prog_5_method_1_code q.1 = .ok (q.2.1, q.2.2.1) := by decide +kernel
theorem lb_28 : tb_28.all (fun q => am_lb am_C0 tables_1 am_K md_28 q.1 q.2.1 q.2.2.1 q.2.2.2) = true := by decide +kernel
theorem de_29 : ∀ q ∈ tb_29, decode prog_5_method_2_code q.1 = .ok (q.2.1, q.2.2.1) := by decide +kernel
theorem lb_29 : tb_29.all (fun q => am_lb am_C0 tables_1 am_K md_29 q.1 q.2.1 q.2.2.1 q.2.2.2) = true := by decide +kernel
theorem de_30 : ∀ q ∈ tb_30, decode prog_5_method_3_code q.1 = .ok (q.2.1, q.2.2.1) := by decide +kernel
theorem lb_30 : tb_30.all (fun q => am_lb am_C0 tables_1 am_K md_30 q.1 q.2.1 q.2.2.1 q.2.2.2) = true := by decide +kernel
theorem de_31 : ∀ q ∈ tb_31, decode prog_5_method_4_code q.1 = .ok (q.2.1, q.2.2.1) := by decide +kernel
theorem lb_31 : tb_31.all (fun q => am_lb am_C0 tables_1 am_K md_31 q.1 q.2.1 q.2.2.1 q.2.2.2) = true := by decide +kernel
theorem de_32 : ∀ q ∈ tb_32, decode prog_5_method_5_code q.1 = .ok (q.2.1, q.2.2.1) := by decide +kernel
theorem lb_32 : tb_32.all (fun q => am_lb am_C0 tables_1 am_K md_32 q.1 q.2.1 q.2.2.1 q.2.2.2) = true := by decide +kernel
theorem de_33 : ∀ q ∈ tb_33, decode prog_5_method_6_code q.1 = .ok (q.2.1, q.2.2.1) := by decide +kernel
theorem lb_33 : tb_33.all (fun q => am_lb am_C0 tables_1 am_K md_33 q.1 q.2.1 q.2.2.1 q.2.2.2) = true := by decide +kernel
theorem de_34 : ∀ q ∈ tb_34, decode prog_5_method_7_code q.1 = .ok (q.2.1, q.2.2.1) := by decide +kernel
theorem lb_34 : tb_34.all (fun q => am_lb am_C0 tables_1 am_K md_34 q.1 q.2.1 q.2.2.1 q.2.2.2) = true := by decide +kernel
theorem de_35 : ∀ q ∈ tb_35, decode prog_5_method_8_code q.1 = .ok (q.2.1, q.2.2.1) := by decide +kernel
theorem lb_35 : tb_35.all (fun q => am_lb am_C0 tables_1 am_K md_35 q.1 q.2.1 q.2.2.1 q.2.2.2) = true := by decide +kernel
theorem de_36 : ∀ q ∈ tb_36, decode prog_5_method_9_code q.1 = .ok (q.2.1, q.2.2.1) := by decide +kernel
theorem lb_36 : tb_36.all (fun q => am_lb am_C0 tables_1 am_K md_36 q.1 q.2.1 q.2.2.1 q.2.2.2) = true := by decide +kernel
theorem de_37 : ∀ q ∈ tb_37, decode prog_5_method_10_code q.1 = .ok (q.2.1, q.2.2.1) := by decide +kernel
theorem lb_37 : tb_37.all (fun q => am_lb am_C0 tables_1 am_K md_37 q.1 q.2.1 q.2.2.1 q.2.2.2) = true := by decide +kernel
theorem de_38 : ∀ q ∈ tb_38, decode prog_5_method_11_code q.1 = .ok (q.2.1, q.2.2.1) := by decide +kernel
theorem lb_38 : tb_38.all (fun q => am_lb am_C0 tables_1 am_K md_38 q.1 q.2.1 q.2.2.1 q.2.2.2) = true := by decide +kernel
theorem de_39 : ∀ q ∈ tb_39, decode prog_6_method_1_code q.1 = .ok (q.2.1, q.2.2.1) := by decide +kernel
theorem lb_39 : tb_39.all (fun q => am_lb am_C0 tables_1 am_K md_39 q.1 q.2.1 q.2.2.1 q.2.2.2) = true := by decide +kernel
theorem de_40 : ∀ q ∈ tb_40, decode prog_6_method_2_code q.1 = .ok (q.2.1, q.2.2.1) := by decide +kernel
theorem lb_40 : tb_40.all (fun q => am_lb am_C0 tables_1 am_K md_40 q.1 q.2.1 q.2.2.1 q.2.2.2) = true := by decide +kernel
theorem de_41 : ∀ q ∈ tb_41, decode prog_6_method_3_code q.1 = .ok (q.2.1, q.2.2.1) := by decide +kernel
theorem lb_41 : tb_41.all (fun q => am_lb am_C0 tables_1 am_K md_41 q.1 q.2.1 q.2.2.1 q.2.2.2) = true := by decide +kernel
end
section
theorem de_42 : ∀ q ∈ tb_42, decode prog_6_method_4_code q.1 = .ok (q.2.1, q.2.2.1) := by decide +kernel
theorem lb_42 : tb_42.all (fun q => am_lb am_C0 tables_1 am_K md_42 q.1 q.2.1 q.2.2.1 q.2.2.2) = true := by decide +kernel
theorem de_43 : ∀ q ∈ tb_43, decode prog_6_method_5_code q.1 = .ok (q.2.1, q.2.2.1) := by decide +kernel
theorem lb_43 : tb_43.all (fun q => am_lb am_C0 tables_1 am_K md_43 q.1 q.2.1 q.2.2.1 q.2.2.2) = true := by decide +kernel
theorem de_44 : ∀ q ∈ tb_44, decode prog_6_method_6_code q.1 = .ok (q.2.1, q.2.2.1) := by decide +kernel
theorem lb_44 : tb_44.all (fun q => am_lb am_C0 tables_1 am_K md_44 q.1 q.2.1 q.2.2.1 q.2.2.2) = true := by decide +kernel
theorem de_45 : ∀ q ∈ tb_45, decode prog_6_method_7_code q.1 = .ok (q.2.1, q.2.2.1) := by decide +kernel
theorem lb_45 : tb_45.all (fun q => am_lb am_C0 tables_1 am_K md_45 q.1 q.2.1 q.2.2.1 q.2.2.2) = true := by decide +kernel
theorem de_46 : ∀ q ∈ tb_46, decode prog_6_method_8_code q.1 = .ok (q.2.1, q.2.2.1) := by decide +kernel
theorem lb_46 : tb_46.all (fun q => am_lb am_C0 tables_1 am_K md_46 q.1 q.2.1 q.2.2.1 q.2.2.2) = true := by decide +kernel
theorem de_47 : ∀ q ∈ tb_47, decode prog_6_method_9_code q.1 = .ok (q.2.1, q.2.2.1) := by decide +kernel
theorem lb_47 : tb_47.all (fun q => am_lb am_C0 tables_1 am_K md_47 q.1 q.2.1 q.2.2.1 q.2.2.2) = true := by decide +kernel
theorem de_48 : ∀ q ∈ tb_48, decode prog_6_method_10_code q.1 = .ok (q.2.1, q.2.2.1) := by decide +kernel
theorem lb_48 : tb_48.all (fun q => am_lb am_C0 tables_1 am_K md_48 q.1 q.2.1 q.2.2.1 q.2.2.2) = true := by decide +kernel
theorem de_49 : ∀ q ∈ tb_49, decode prog_6_method_11_code q.1 = .ok (q.2.1, q.2.2.1) := by decide +kernel
theorem lb_49 : tb_49.all (fun q => am_lb am_C0 tables_1 am_K md_49 q.1 q.2.1 q.2.2.1 q.2.2.2) = true := by decide +kernel
theorem de_50 : ∀ q ∈ tb_50, decode prog_6_method_12_code q.1 = .ok (q.2.1, q.2.2.1) := by decide +kernel
theorem lb_50 : tb_50.all (fun q => am_lb am_C0 tables_1 am_K md_50 q.1 q.2.1 q.2.2.1 q.2.2.2) = true := by decide +kernel
theorem de_51 : ∀ q ∈ tb_51, decode prog_6_method_13_code q.1 = .ok (q.2.1, q.2.2.1) := by decide +kernel
theorem lb_51 : tb_51.all (fun q => am_lb am_C0 tables_1 am_K md_51 q.1 q.2.1 q.2.2.1 q.2.2.2) = true := by decide +kernel
theorem de_52 : ∀ q ∈ tb_52, decode prog_6_method_14_code q.1 = .ok (q.2.1, q.2.2.1) := by decide +kernel
theorem lb_52 : tb_52.all (fun q => am_lb am_C0 tables_1 am_K md_52 q.1 q.2.1 q.2.2.1 q.2.2.2) = true := by decide +kernel
theorem de_53 : ∀ q ∈ tb_53, decode prog_6_method_15_code q.1 = .ok (q.2.1, q.2.2.1) := by decide +kernel
theorem lb_53 : tb_53.all (fun q => am_lb am_C0 tables_1 am_K md_53 q.1 q.2.1 q.2.2.1 q.2.2.2) = true := by decide +kernel
theorem de_54 : ∀ q ∈ tb_54, decode prog_6_method_16_code q.1 = .ok (q.2.1, q.2.2.1) := by decide +kernel
theorem lb_54 : tb_54.all (fun q => am_lb am_C0 tables_1 am_K md_54 q.1 q.2.1 q.2.2.1 q.2.2.2) = true := by decide +kernel
theorem de_55 : ∀ q ∈ tb_55, decode prog_6_method_17_code q.1 = .ok (q.2.1, q.2.2.1) := by decide +kernel
theorem lb_55 : tb_55.all (fun q => am_lb am_C0 tables_1 am_K md_55 q.1 q.2.1 q.2.2.1 q.2.2.2) = true := by decide +kernel
theorem de_56 : ∀ q ∈ tb_56, decode prog_6_method_18_code q.1 = .ok (q.2.1, q.2.2.1) := by decide +kernel
theorem lb_56 : tb_56.all (fun q => am_lb am_C0 tables_1 am_K md_56 q.1 q.2.1 q.2.2.1 q.2.2.2) = true := by decide +kernel
theorem de_57 : ∀ q ∈ tb_57, decode prog_6_method_19_code q.1 = .ok (q.2.1, q.2.2.1) := by decide +kernel
theorem lb_57 : tb_57.all (fun q => am_lb am_C0 tables_1 am_K md_57 q.1 q.2.1 q.2.2.1 q.2.2.2) = true := by decide +kernel
theorem de_58 : ∀ q ∈ tb_58, decode prog_6_method_20_code q.1 = .ok (q.2.1, q.2.2.1) := by decide +kernel
theorem lb_58 : tb_58.all (fun q => am_lb am_C0 tables_1 am_K md_58 q.1 q.2.1 q.2.2.1 q.2.2.2) = true := by decide +kernel
theorem de_59 : ∀ q ∈ tb_59, decode prog_6_method_21_code q.1 = .ok (q.2.1, q.2.2.1) := by decide +kernel
theorem lb_59 : tb_59.all (fun q => am_lb am_C0 tables_1 am_K md_59 q.1 q.2.1 q.2.2.1 q.2.2.2) = true := by decide +kernel
theorem de_60 : ∀ q ∈ tb_60, decode prog_6_method_22_code q.1 = .ok (q.2.1, q.2.2.1) := by decide +kernel
theorem lb_60 : tb_60.all (fun q => am_lb am_C0 tables_1 am_K md_60 q.1 q.2.1 q.2.2.1 q.2.2.2) = true := by decide +kernel
theorem de_61 : ∀ q ∈ tb_61, decode prog_6_method_23_code q.1 = .ok (q.2.1, q.2.2.1) := by decide +kernel
theorem lb_61 : tb_61.all (fun q => am_lb am_C0 tables_1 am_K md_61 q.1 q.2.1 q.2.2.1 q.2.2.2) = true := by decide +kernel
theorem de_62 : ∀ q ∈ tb_62, decode prog_6_method_24_code q.1 = .ok (q.2.1, q.2.2.1) := by decide +kernel
theorem lb_62 : tb_62.all (fun q => am_lb am_C0 tables_1 am_K md_62 q.1 q.2.1 q.2.2.1 q.2.2.2) = true := by decide +kernel
theorem de_63 : ∀ q ∈ tb_63, decode prog_6_method_25_code q.1 = .ok (q.2.1, q.2.2.1) := by decide +kernel
theorem lb_63 : tb_63.all (fun q => am_lb am_C0 tables_1 am_K md_63 q.1 q.2.1 q.2.2.1 q.2.2.2) = true := by decide +kernel
theorem de_64 : ∀ q ∈ tb_64, decode prog_6_method_26_code q.1 = .ok (q.2.1, q.2.2.1) := by decide +kernel
theorem lb_64 : tb_64.all (fun q => am_lb am_C0 tables_1 am_K md_64 q.1 q.2.1 q.2.2.1 q.2.2.2) = true := by decide +kernel
theorem de_65 : ∀ q ∈ tb_65, decode prog_6_method_27_code q.1 = .ok (q.2.1, q.2.2.1) := by decide +kernel
theorem lb_65 : tb_65.all (fun q => am_lb am_C0 tables_1 am_K md_65 q.1 q.2.1 q.2.2.1 q.2.2.2) = true := by decide +kernel
theorem de_66 : ∀ q ∈ tb_66, decode prog_6_method_28_code q.1 = .ok (q.2.1, q.2.2.1) := by decide +kernel
theorem lb_66 : tb_66.all (fun q => am_lb am_C0 tables_1 am_K md_66 q.1 q.2.1 q.2.2.1 q.2.2.2) = true := by decide +kernel
theorem de_67 : ∀ q ∈ tb_67, decode prog_6_method_29_code q.1 = .ok (q.2.1, q.2.2.1) := by decide +kernel
theorem lb_67 : tb_67.all (fun q => am_lb am_C0 tables_1 am_K md_67 q.1 q.2.1 q.2.2.1 q.2.2.2) = true := by decide +kernel
theorem de_68 : ∀ q ∈ tb_68, decode prog_7_method_1_code q.1 = .ok (q.2.1, q.2.2.1) := by decide +kernel
theorem lb_68 : tb_68.all (fun q => am_lb am_C0 tables_1 am_K md_68 q.1 q.2.1 q.2.2.1 q.2.2.2) = true := by decide +kernel
theorem de_69 : ∀ q ∈ tb_69, decode prog_7_method_2_code q.1 = .ok (q.2.1, q.2.2.1) := by decide +kernel
theorem lb_69 : tb_69.all (fun q => am_lb am_C0 tables_1 am_K md_69 q.1 q.2.1 q.2.2.1 q.2.2.2) = true := by decide +kernel
theorem de_70 : ∀ q ∈ tb_70, decode prog_7_method_3_code q.1 = .ok (q.2.1, q.2.2.1) := by decide +kernel
theorem lb_70 : tb_70.all (fun q => am_lb am_C0 tables_1 am_K md_70 q.1 q.2.1 q.2.2.1 q.2.2.2) = true := by decide +kernel
theorem de_71 : ∀ q ∈ tb_71, decode prog_7_method_4_code q.1 = .ok (q.2.1, q.2.2.1) := by decide +kernel
theorem lb_71 : tb_71.all (fun q => am_lb am_C0 tables_1 am_K md_71 q.1 q.2.1 q.2.2.1 q.2.2.2) = true := by decide +kernel
theorem de_72 : ∀ q ∈ tb_72, decode prog_7_method_5_code q.1 = .ok (q.2.1, q.2.2.1) := by decide +kernel
theorem lb_72 : tb_72.all (fun q => am_lb am_C0 tables_1 am_K md_72 q.1 q.2.1 q.2.2.1 q.2.2.2) = true := by decide +kernel
theorem de_73 : ∀ q ∈ tb_73, decode prog_7_method_6_code q.1 = .ok (q.2.1, q.2.2.1) := by decide +kernel
theorem lb_73 : tb_73.all (fun q => am_lb am_C0 tables_1 am_K md_73 q.1 q.2.1 q.2.2.1 q.2.2.2) = true := by decide +kernel
theorem de_74 : ∀ q ∈ tb_74, decode prog_7_method_7_code q.1 = .ok (q.2.1, q.2.2.1) := by decide +kernel
theorem lb_74 : tb_74.all (fun q => am_lb am_C0 tables_1 am_K md_74 q.1 q.2.1 q.2.2.1 q.2.2.2) = true := by decide +kernel
theorem de_75 : ∀ q ∈ tb_75, decode prog_7_method_8_code q.1 = .ok (q.2.1, q.2.2.1) := by decide +kernel
theorem lb_75 : tb_75.all (fun q => am_lb am_C0 tables_1 am_K md_75 q.1 q.2.1 q.2.2.1 q.2.2.2) = true := by decide +kernel
theorem de_76 : ∀ q ∈ tb_76, decode prog_8_method_1_code q.1 = .ok (q.2.1, q.2.2.1) := by decide +kernel
theorem lb_76 : tb_76.all (fun q => am_lb am_C0 tables_1 am_K md_76 q.1 q.2.1 q.2.2.1 q.2.2.2) = true := by decide +kernel
theorem de_77 : ∀ q ∈ tb_77, decode prog_8_method_2_code q.1 = .ok (q.2.1, q.2.2.1) := by decide +kernel
theorem lb_77 : tb_77.all (fun q => am_lb am_C0 tables_1 am_K md_77 q.1 q.2.1 q.2.2.1 q.2.2.2) = true := by decide +kernel
theorem de_78 : ∀ q ∈ tb_78, decode prog_8_method_3_code q.1 = .ok (q.2.1, q.2.2.1) := by decide +kernel
theorem lb_78 : tb_78.all (fun q => am_lb am_C0 tables_1 am_K md_78 q.1 q.2.1 q.2.2.1 q.2.2.2) = true := by decide +kernel
theorem de_79 : ∀ q ∈ tb_79, decode prog_8_method_4_code q.1 = .ok (q.2.1, q.2.2.1) := by decide +kernel
theorem lb_79 : tb_79.all (fun q => am_lb am_C0 tables_1 am_K md_79 q.1 q.2.1 q.2.2.1 q.2.2.2) = true := by decide +kernel
theorem de_80 : ∀ q ∈ tb_80, decode prog_9_method_1_code q.1 = .ok (q.2.1, q.2.2.1) := by decide +kernel
theorem lb_80 : tb_80.all (fun q => am_lb am_C0 tables_1 am_K md_80 q.1 q.2.1 q.2.2.1 q.2.2.2) = true := by decide +kernel
theorem de_81 : ∀ q ∈ tb_81, decode prog_9_method_2_code q.1 = .ok (q.2.1, q.2.2.1) := by decide +kernel
theorem lb_81 : tb_81.all (fun q => am_lb am_C0 tables_1 am_K md_81 q.1 q.2.1 q.2.2.1 q.2.2.2) = true := by decide +kernel
theorem de_82 : ∀ q ∈ tb_82, decode prog_9_method_3_code q.1 = .ok (q.2.1, q.2.2.1) := by decide +kernel
theorem lb_82 : tb_82.all (fun q => am_lb am_C0 tables_1 am_K md_82 q.1 q.2.1 q.2.2.1 q.2.2.2) = true := by decide +kernel
theorem de_83 : ∀ q ∈ tb_83, decode prog_9_method_4_code q.1 = .ok (q.2.1, q.2.2.1) := by decide +kernel
theorem lb_83 : tb_83.all (fun q => am_lb am_C0 tables_1 am_K md_83 q.1 q.2.1 q.2.2.1 q.2.2.2) = true := by decide +kernel
theorem de_84 : ∀ q ∈ tb_84, decode prog_9_method_5_code q.1 = .ok (q.2.1, q.2.2.1) := by decide +kernel
theorem lb_84 : tb_84.all (fun q => am_lb am_C0 tables_1 am_K md_84 q.1 q.2.1 q.2.2.1 q.2.2.2) = true := by decide +kernel
theorem de_85 : ∀ q ∈ tb_85, decode prog_9_method_6_code q.1 = .ok (q.2.1, q.2.2.1) := by decide +kernel
theorem lb_85 : tb_85.all (fun q => am_lb am_C0 tables_1 am_K md_85 q.1 q.2.1 q.2.2.1 q.2.2.2) = true := by decide +kernel
theorem de_86 : ∀ q ∈ tb_86, decode prog_9_method_7_code q.1 = .ok (q.2.1, q.2.2.1) := by decide +kernel
theorem lb_86 : tb_86.all (fun q => am_lb am_C0 tables_1 am_K md_86 q.1 q.2.1 q.2.2.1 q.2.2.2) = true := by decide +kernel
theorem de_87 : ∀ q ∈ tb_87, decode prog_9_method_8_code q.1 = .ok (q.2.1, q.2.2.1) := by decide +kernel
theorem lb_87 : tb_87.all (fun q => am_lb am_C0 tables_1 am_K md_87 q.1 q.2.1 q.2.2.1 q.2.2.2) = true := by decide +kernel
theorem de_88 : ∀ q ∈ tb_88, decode prog_9_method_9_code q.1 = .ok (q.2.1, q.2.2.1) := by decide +kernel
theorem lb_88 : tb_88.all (fun q => am_lb am_C0 tables_1 am_K md_88 q.1 q.2.1 q.2.2.1 q.2.2.2) = true := by decide +kernel
theorem de_89 : ∀ q ∈ tb_89, decode prog_9_method_10_code q.1 = .ok (q.2.1, q.2.2.1) := by decide +kernel
theorem lb_89 : tb_89.all (fun q => am_lb am_C0 tables_1 am_K md_89 q.1 q.2.1 q.2.2.1 q.2.2.2) = true := by decide +kernel
theorem de_90 : ∀ q ∈ tb_90, decode prog_9_method_11_code q.1 = .ok (q.2.1, q.2.2.1) := by decide +kernel
theorem lb_90 : tb_90.all (fun q => am_lb am_C0 tables_1 am_K md_90 q.1 q.2.1 q.2.2.1 q.2.2.2) = true := by decide +kernel
theorem de_91 : ∀ q ∈ tb_91, decode prog_9_method_12_code q.1 = .ok (q.2.1, q.2.2.1) := by decide +kernel
theorem lb_91 : tb_91.all (fun q => am_lb am_C0 tables_1 am_K md_91 q.1 q.2.1 q.2.2.1 q.2.2.2) = true := by decide +kernel
theorem de_92 : ∀ q ∈ tb_92, decode prog_10_method_1_code q.1 = .ok (q.2.1, q.2.2.1) := by decide +kernel
theorem lb_92 : tb_92.all (fun q => am_lb am_C0 tables_1 am_K md_92 q.1 q.2.1 q.2.2.1 q.2.2.2) = true := by decide +kernel
theorem de_93 : ∀ q ∈ tb_93, decode prog_10_method_2_code q.1 = .ok (q.2.1, q.2.2.1) := by decide +kernel
theorem lb_93 : tb_93.all (fun q => am_lb am_C0 tables_1 am_K md_93 q.1 q.2.1 q.2.2.1 q.2.2.2) = true := by decide +kernel
theorem de_94 : ∀ q ∈ tb_94, decode prog_10_method_3_code q.1 = .ok (q.2.1, q.2.2.1) := by decide +kernel
theorem lb_94 : tb_94.all (fun q => am_lb am_C0 tables_1 am_K md_94 q.1 q.2.1 q.2.2.1 q.2.2.2) = true := by decide +kernel
theorem de_95 : ∀ q ∈ tb_95, decode prog_10_method_4_code q.1 = .ok (q.2.1, q.2.2.1) := by decide +kernel
theorem lb_95 : tb_95.all (fun q => am_lb am_C0 tables_1 am_K md_95 q.1 q.2.1 q.2.2.1 q.2.2.2) = true := by decide +kernel
theorem de_96 : ∀ q ∈ tb_96, decode prog_10_method_5_code q.1 = .ok (q.2.1, q.2.2.1) := by decide +kernel
theorem lb_96 : tb_96.all (fun q => am_lb am_C0 tables_1 am_K md_96 q.1 q.2.1 q.2.2.1 q.2.2.2) = true := by decide +kernel
end
section
theorem de_97 : ∀ q ∈ tb_97, decode prog_10_method_6_code q.1 = .ok (q.2.1, q.2.2.1) := by decide +kernel
theorem lb_97 : tb_97.all (fun q => am_lb am_C0 tables_1 am_K md_97 q.1 q.2.1 q.2.2.1 q.2.2.2) = true := by decide +kernel
theorem de_98 : ∀ q ∈ tb_98, decode prog_10_method_7_code q.1 = .ok (q.2.1, q.2.2.1) := by decide +kernel
theorem lb_98 : tb_98.all (fun q => am_lb am_C0 tables_1 am_K md_98 q.1 q.2.1 q.2.2.1 q.2.2.2) = true := by decide +kernel
theorem de_99 : ∀ q ∈ tb_99, decode prog_10_method_8_code q.1 = .ok (q.2.1, q.2.2.1) := by decide +kernel
theorem lb_99 : tb_99.all (fun q => am_lb am_C0 tables_1 am_K md_99 q.1 q.2.1 q.2.2.1 q.2.2.2) = true := by decide +kernel
theorem de_100 : ∀ q ∈ tb_100, decode prog_10_method_9_code q.1 = .ok (q.2.1, q.2.2.1) := by decide +kernel
theorem lb_100 : tb_100.all (fun q => am_lb am_C0 tables_1 am_K md_100 q.1 q.2.1 q.2.2.1 q.2.2.2) = true := by decide +kernel
theorem de_101 : ∀ q ∈ tb_101, decode prog_10_method_10_code q.1 = .ok (q.2.1, q.2.2.1) := by decide +kernel
theorem lb_101 : tb_101.all (fun q => am_lb am_C0 tables_1 am_K md_101 q.1 q.2.1 q.2.2.1 q.2.2.2) = true := by decide +kernel
theorem de_102 : ∀ q ∈ tb_102, decode prog_10_method_11_code q.1 = .ok (q.2.1, q.2.2.1) := by decide +kernel
theorem lb_102 : tb_102.all (fun q => am_lb am_C0 tables_1 am_K md_102 q.1 q.2.1 q.2.2.1 q.2.2.2) = true := by decide +kernel
theorem de_103 : ∀ q ∈ tb_103, decode prog_10_method_12_code q.1 = .ok (q.2.1, q.2.2.1) := by decide +kernel
theorem lb_103 : tb_103.all (fun q => am_lb am_C0 tables_1 am_K md_103 q.1 q.2.1 q.2.2.1 q.2.2.2) = true := by decide +kernel
theorem de_104 : ∀ q ∈ tb_104, decode prog_10_method_13_code q.1 = .ok (q.2.1, q.2.2.1) := by decide +kernel
theorem lb_104 : tb_104.all (fun q => am_lb am_C0 tables_1 am_K md_104 q.1 q.2.1 q.2.2.1 q.2.2.2) = true := by decide +kernel
theorem de_105 : ∀ q ∈ tb_105, decode prog_10_method_14_code q.1 = .ok (q.2.1, q.2.2.1) := by decide +kernel
theorem lb_105 : tb_105.all (fun q => am_lb am_C0 tables_1 am_K md_105 q.1 q.2.1 q.2.2.1 q.2.2.2) = true := by decide +kernel
theorem de_106 : ∀ q ∈ tb_106, decode prog_10_method_15_code q.1 = .ok (q.2.1, q.2.2.1) := by decide +kernel
theorem lb_106 : tb_106.all (fun q => am_lb am_C0 tables_1 am_K md_106 q.1 q.2.1 q.2.2.1 q.2.2.2) = true := by decide +kernel
theorem de_107 : ∀ q ∈ tb_107, decode prog_10_method_16_code q.1 = .ok (q.2.1, q.2.2.1) := by decide +kernel
theorem lb_107 : tb_107.all (fun q => am_lb am_C0 tables_1 am_K md_107 q.1 q.2.1 q.2.2.1 q.2.2.2) = true := by decide +kernel
theorem de_108 : ∀ q ∈ tb_108, decode prog_1_method_1_code q.1 = .ok (q.2.1, q.2.2.1) := by decide +kernel
theorem lb_108 : tb_108.all (fun q => am_lb am_C0 tables_1 am_K md_108 q.1 q.2.1 q.2.2.1 q.2.2.2) = true := by decide +kernel
theorem de_109 : ∀ q ∈ tb_109, decode prog_1_method_2_code q.1 = .ok (q.2.1, q.2.2.1) := by decide +kernel
theorem lb_109 : tb_109.all (fun q => am_lb am_C0 tables_1 am_K md_109 q.1 q.2.1 q.2.2.1 q.2.2.2) = true := by decide +kernel
theorem de_110 : ∀ q ∈ tb_110, decode prog_1_method_3_code q.1 = .ok (q.2.1, q.2.2.1) := by decide +kernel
theorem lb_110 : tb_110.all (fun q => am_lb am_C0 tables_1 am_K md_110 q.1 q.2.1 q.2.2.1 q.2.2.2) = true := by decide +kernel
theorem de_111 : ∀ q ∈ tb_111, decode prog_1_method_4_code q.1 = .ok (q.2.1, q.2.2.1) := by decide +kernel
theorem lb_111 : tb_111.all (fun q => am_lb am_C0 tables_1 am_K md_111 q.1 q.2.1 q.2.2.1 q.2.2.2) = true := by decide +kernel
theorem de_112 : ∀ q ∈ tb_112, decode prog_1_method_5_code q.1 = .ok (q.2.1, q.2.2.1) := by decide +kernel
theorem lb_112 : tb_112.all (fun q => am_lb am_C0 tables_1 am_K md_112 q.1 q.2.1 q.2.2.1 q.2.2.2) = true := by decide +kernel
theorem de_113 : ∀ q ∈ tb_113, decode prog_1_method_6_code q.1 = .ok (q.2.1, q.2.2.1) := by decide +kernel
theorem lb_113 : tb_113.all (fun q => am_lb am_C0 tables_1 am_K md_113 q.1 q.2.1 q.2.2.1 q.2.2.2) = true := by decide +kernel
theorem de_114 : ∀ q ∈ tb_114, decode prog_1_method_7_code q.1 = .ok (q.2.1, q.2.2.1) := by decide +kernel
theorem lb_114 : tb_114.all (fun q => am_lb am_C0 tables_1 am_K md_114 q.1 q.2.1 q.2.2.1 q.2.2.2) = true := by decide +kernel
theorem de_115 : ∀ q ∈ tb_115, decode prog_1_method_8_code q.1 = .ok (q.2.1, q.2.2.1) := by decide +kernel
theorem lb_115 : tb_115.all (fun q => am_lb am_C0 tables_1 am_K md_115 q.1 q.2.1 q.2.2.1 q.2.2.2) = true := by decide +kernel
theorem de_116 : ∀ q ∈ tb_116, decode prog_1_method_9_code q.1 = .ok (q.2.1, q.2.2.1) := by decide +kernel
theorem lb_116 : tb_116.all (fun q => am_lb am_C0 tables_1 am_K md_116 q.1 q.2.1 q.2.2.1 q.2.2.2) = true := by decide +kernel
theorem de_117 : ∀ q ∈ tb_117, decode prog_1_method_10_code q.1 = .ok (q.2.1, q.2.2.1) := by decide +kernel
theorem lb_117 : tb_117.all (fun q => am_lb am_C0 tables_1 am_K md_117 q.1 q.2.1 q.2.2.1 q.2.2.2) = true := by decide +kernel
theorem de_118 : ∀ q ∈ tb_118, decode prog_1_method_11_code q.1 = .ok (q.2.1, q.2.2.1) := by decide +kernel
theorem lb_118 : tb_118.all (fun q => am_lb am_C0 tables_1 am_K md_118 q.1 q.2.1 q.2.2.1 q.2.2.2) = true := by decide +kernel
theorem de_119 : ∀ q ∈ tb_119, decode prog_1_method_12_code q.1 = .ok (q.2.1, q.2.2.1) := by decide +kernel
theorem lb_119 : tb_119.all (fun q => am_lb am_C0 tables_1 am_K md_119 q.1 q.2.1 q.2.2.1 q.2.2.2) = true := by decide +kernel
theorem de_120 : ∀ q ∈ tb_120, decode prog_1_method_13_code q.1 = .ok (q.2.1, q.2.2.1) := by decide +kernel
theorem lb_120 : tb_120.all (fun q => am_lb am_C0 tables_1 am_K md_120 q.1 q.2.1 q.2.2.1 q.2.2.2) = true := by decide +kernel
theorem de_121 : ∀ q ∈ tb_121, decode prog_1_method_14_code q.1 = .ok (q.2.1, q.2.2.1) := by decide +kernel
theorem lb_121 : tb_121.all (fun q => am_lb am_C0 tables_1 am_K md_121 q.1 q.2.1 q.2.2.1 q.2.2.2) = true := by decide +kernel
theorem de_122 : ∀ q ∈ tb_122, decode prog_1_method_15_code q.1 = .ok (q.2.1, q.2.2.1) := by decide +kernel
theorem lb_122 : tb_122.all (fun q => am_lb am_C0 tables_1 am_K md_122 q.1 q.2.1 q.2.2.1 q.2.2.2) = true := by decide +kernel
theorem de_123 : ∀ q ∈ tb_123, decode prog_1_method_16_code q.1 = .ok (q.2.1, q.2.2.1) := by decide +kernel
theorem lb_123 : tb_123.all (fun q => am_lb am_C0 tables_1 am_K md_123 q.1 q.2.1 q.2.2.1 q.2.2.2) = true := by decide +kernel
theorem de_124 : ∀ q ∈ tb_124, decode prog_1_method_17_code q.1 = .ok (q.2.1, q.2.2.1) := by decide +kernel
theorem lb_124 : tb_124.all (fun q => am_lb am_C0 tables_1 am_K md_124 q.1 q.2.1 q.2.2.1 q.2.2.2) = true := by decide +kernel
theorem de_125 : ∀ q ∈ tb_125, decode prog_1_method_18_code q.1 = .ok (q.2.1, q.2.2.1) := by decide +kernel
theorem lb_125 : tb_125.all (fun q => am_lb am_C0 tables_1 am_K md_125 q.1 q.2.1 q.2.2.1 q.2.2.2) = true := by decide +kernel
theorem de_126 : ∀ q ∈ tb_126, decode prog_1_method_19_code q.1 = .ok (q.2.1, q.2.2.1) := by decide +kernel
theorem lb_126 : tb_126.all (fun q => am_lb am_C0 tables_1 am_K md_126 q.1 q.2.1 q.2.2.1 q.2.2.2) = true := by decide +kernel
theorem de_127 : ∀ q ∈ tb_127, decode prog_1_method_20_code q.1 = .ok (q.2.1, q.2.2.1) := by decide +kernel
theorem lb_127 : tb_127.all (fun q => am_lb am_C0 tables_1 am_K md_127 q.1 q.2.1 q.2.2.1 q.2.2.2) = true := by decide +kernel
theorem de_128 : ∀ q ∈ tb_128, decode prog_1_method_21_code q.1 = .ok (q.2.1, q.2.2.1) := by decide +kernel
theorem lb_128 : tb_128.all (fun q => am_lb am_C0 tables_1 am_K md_128 q.1 q.2.1 q.2.2.1 q.2.2.2) = true := by decide +kernel
theorem de_129 : ∀ q ∈ tb_129, decode prog_1_method_22_code q.1 = .ok (q.2.1, q.2.2.1) := by decide +kernel
theorem lb_129 : tb_129.all (fun q => am_lb am_C0 tables_1 am_K md_129 q.1 q.2.1 q.2.2.1 q.2.2.2) = true := by decide +kernel
theorem de_130 : ∀ q ∈ tb_130, decode prog_12_method_1_code q.1 = .ok (q.2.1, q.2.2.1) := by decide +kernel
theorem lb_130 : tb_130.all (fun q => am_lb am_C0 tables_1 am_K md_130 q.1 q.2.1 q.2.2.1 q.2.2.2) = true := by decide +kernel
theorem de_131 : ∀ q ∈ tb_131, decode prog_12_method_2_code q.1 = .ok (q.2.1, q.2.2.1) := by decide +kernel
theorem lb_131 : tb_131.all (fun q => am_lb am_C0 tables_1 am_K md_131 q.1 q.2.1 q.2.2.1 q.2.2.2) = true := by decide +kernel
theorem de_132 : ∀ q ∈ tb_132, decode prog_12_method_3_code q.1 = .ok (q.2.1, q.2.2.1) := by decide +kernel
theorem lb_132 : tb_132.all (fun q => am_lb am_C0 tables_1 am_K md_132 q.1 q.2.1 q.2.2.1 q.2.2.2) = true := by decide +kernel
theorem de_133 : ∀ q ∈ tb_133, decode prog_12_method_4_code q.1 = .ok (q.2.1, q.2.2.1) := by decide +kernel
theorem lb_133 : tb_133.all (fun q => am_lb am_C0 tables_1 am_K md_133 q.1 q.2.1 q.2.2.1 q.2.2.2) = true := by decide +kernel
theorem de_134 : ∀ q ∈ tb_134, decode prog_12_method_5_code q.1 = .ok (q.2.1, q.2.2.1) := by decide +kernel
theorem lb_134 : tb_134.all (fun q => am_lb am_C0 tables_1 am_K md_134 q.1 q.2.1 q.2.2.1 q.2.2.2) = true := by decide +kernel
theorem de_135 : ∀ q ∈ tb_135, decode prog_12_method_6_code q.1 = .ok (q.2.1, q.2.2.1) := by decide +kernel
theorem lb_135 : tb_135.all (fun q => am_lb am_C0 tables_1 am_K md_135 q.1 q.2.1 q.2.2.1 q.2.2.2) = true := by decide +kernel
theorem de_136 : ∀ q ∈ tb_136, decode prog_12_method_7_code q.1 = .ok (q.2.1, q.2.2.1) := by decide +kernel
theorem lb_136 : tb_136.all (fun q => am_lb am_C0 tables_1 am_K md_136 q.1 q.2.1 q.2.2.1 q.2.2.2) = true := by decide +kernel
theorem de_137 : ∀ q ∈ tb_137, decode prog_12_method_8_code q.1 = .ok (q.2.1, q.2.2.1) := by decide +kernel
theorem lb_137 : tb_137.all (fun q => am_lb am_C0 tables_1 am_K md_137 q.1 q.2.1 q.2.2.1 q.2.2.2) = true := by decide +kernel
theorem de_138 : ∀ q ∈ tb_138, decode prog_12_method_9_code q.1 = .ok (q.2.1, q.2.2.1) := by decide +kernel
theorem lb_138 : tb_138.all (fun q => am_lb am_C0 tables_1 am_K md_138 q.1 q.2.1 q.2.2.1 q.2.2.2) = true := by decide +kernel
theorem de_139 : ∀ q ∈ tb_139, decode prog_12_method_10_code q.1 = .ok (q.2.1, q.2.2.1) := by decide +kernel
theorem lb_139 : tb_139.all (fun q => am_lb am_C0 tables_1 am_K md_139 q.1 q.2.1 q.2.2.1 q.2.2.2) = true := by decide +kernel
theorem de_140 : ∀ q ∈ tb_140, decode prog_12_method_11_code q.1 = .ok (q.2.1, q.2.2.1) := by decide +kernel
theorem lb_140 : tb_140.all (fun q => am_lb am_C0 tables_1 am_K md_140 q.1 q.2.1 q.2.2.1 q.2.2.2) = true := by decide +kernel
theorem de_141 : ∀ q ∈ tb_141, decode prog_12_method_12_code q.1 = .ok (q.2.1, q.2.2.1) := by decide +kernel
theorem lb_141 : tb_141.all (fun q => am_lb am_C0 tables_1 am_K md_141 q.1 q.2.1 q.2.2.1 q.2.2.2) = true := by decide +kernel
end
section
theorem de_142 : ∀ q ∈ tb_142, decode prog_12_method_13_code q.1 = .ok (q.2.1, q.2.2.1) := by decide +kernel
theorem lb_142 : tb_142.all (fun q => am_lb am_C0 tables_1 am_K md_142 q.1 q.2.1 q.2.2.1 q.2.2.2) = true := by decide +kernel
theorem de_143 : ∀ q ∈ tb_143, decode prog_12_method_14_code q.1 = .ok (q.2.1, q.2.2.1) := by decide +kernel
theorem lb_143 : tb_143.all (fun q => am_lb am_C0 tables_1 am_K md_143 q.1 q.2.1 q.2.2.1 q.2.2.2) = true := by decide +kernel
theorem de_144 : ∀ q ∈ tb_144, decode prog_12_method_15_code q.1 = .ok (q.2.1, q.2.2.1) := by decide +kernel
theorem lb_144 : tb_144.all (fun q => am_lb am_C0 tables_1 am_K md_144 q.1 q.2.1 q.2.2.1 q.2.2.2) = true := by decide +kernel
theorem de_145 : ∀ q ∈ tb_145, decode prog_12_method_16_code q.1 = .ok (q.2.1, q.2.2.1) := by decide +kernel
theorem lb_145 : tb_145.all (fun q => am_lb am_C0 tables_1 am_K md_145 q.1 q.2.1 q.2.2.1 q.2.2.2) = true := by decide +kernel
theorem de_146 : ∀ q ∈ tb_146, decode prog_12_method_17_code q.1 = .ok (q.2.1, q.2.2.1) := by decide +kernel
theorem lb_146 : tb_146.all (fun q => am_lb am_C0 tables_1 am_K md_146 q.1 q.2.1 q.2.2.1 q.2.2.2) = true := by decide +kernel
theorem de_147 : ∀ q ∈ tb_147, decode prog_12_method_18_code q.1 = .ok (q.2.1, q.2.2.1) := by decide +kernel
theorem lb_147 : tb_147.all (fun q => am_lb am_C0 tables_1 am_K md_147 q.1 q.2.1 q.2.2.1 q.2.2.2) = true := by decide +kernel
theorem de_148 : ∀ q ∈ tb_148, decode prog_12_method_19_code q.1 = .ok (q.2.1, q.2.2.1) := by decide +kernel
theorem lb_148 : tb_148.all (fun q => am_lb am_C0 tables_1 am_K md_148 q.1 q.2.1 q.2.2.1 q.2.2.2) = true := by decide +kernel
theorem de_149 : ∀ q ∈ tb_149, decode prog_12_method_20_code q.1 = .ok (q.2.1, q.2.2.1) := by decide +kernel
theorem lb_149 : tb_149.all (fun q => am_lb am_C0 tables_1 am_K md_149 q.1 q.2.1 q.2.2.1 q.2.2.2) = true := by decide +kernel
theorem de_150 : ∀ q ∈ tb_150, decode prog_12_method_21_code q.1 = .ok (q.2.1, q.2.2.1) := by decide +kernel
theorem lb_150 : tb_150.all (fun q => am_lb am_C0 tables_1 am_K md_150 q.1 q.2.1 q.2.2.1 q.2.2.2) = true := by decide +kernel
theorem de_151 : ∀ q ∈ tb_151, decode prog_12_method_22_code q.1 = .ok (q.2.1, q.2.2.1) := by decide +kernel
theorem lb_151 : tb_151.all (fun q => am_lb am_C0 tables_1 am_K md_151 q.1 q.2.1 q.2.2.1 q.2.2.2) = true := by decide +kernel
theorem de_152 : ∀ q ∈ tb_152, decode prog_12_method_23_code q.1 = .ok (q.2.1, q.2.2.1) := by decide +kernel
theorem lb_152 : tb_152.all (fun q => am_lb am_C0 tables_1 am_K md_152 q.1 q.2.1 q.2.2.1 q.2.2.2) = true := by decide +kernel
theorem de_153 : ∀ q ∈ tb_153, decode prog_12_method_24_code q.1 = .ok (q.2.1, q.2.2.1) := by decide +kernel
theorem lb_153 : tb_153.all (fun q => am_lb am_C0 tables_1 am_K md_153 q.1 q.2.1 q.2.2.1 q.2.2.2) = true := by decide +kernel
theorem de_154 : ∀ q ∈ tb_154, decode prog_12_method_25_code q.1 = .ok (q.2.1, q.2.2.1) := by decide +kernel
theorem lb_154 : tb_154.all (fun q => am_lb am_C0 tables_1 am_K md_154 q.1 q.2.1 q.2.2.1 q.2.2.2) = true := by decide +kernel
theorem de_155 : ∀ q ∈ tb_155, decode prog_12_method_26_code q.1 = .ok (q.2.1, q.2.2.1) := by decide +kernel
theorem lb_155 : tb_155.all (fun q => am_lb am_C0 tables_1 am_K md_155 q.1 q.2.1 q.2.2.1 q.2.2.2) = true := by decide +kernel
theorem de_156 : ∀ q ∈ tb_156, decode prog_12_method_27_code q.1 = .ok (q.2.1, q.2.2.1) := by decide +kernel
theorem lb_156 : tb_156.all (fun q => am_lb am_C0 tables_1 am_K md_156 q.1 q.2.1 q.2.2.1 q.2.2.2) = true := by decide +kernel
theorem de_157 : ∀ q ∈ tb_157, decode prog_12_method_28_code q.1 = .ok (q.2.1, q.2.2.1) := by decide +kernel
theorem lb_157 : tb_157.all (fun q => am_lb am_C0 tables_1 am_K md_157 q.1 q.2.1 q.2.2.1 q.2.2.2) = true := by decide +kernel
theorem de_158 : ∀ q ∈ tb_158, decode prog_12_method_29_code q.1 = .ok (q.2.1, q.2.2.1) := by decide +kernel
theorem lb_158 : tb_158.all (fun q => am_lb am_C0 tables_1 am_K md_158 q.1 q.2.1 q.2.2.1 q.2.2.2) = true := by decide +kernel
theorem de_159 : ∀ q ∈ tb_159, decode prog_12_method_30_code q.1 = .ok (q.2.1, q.2.2.1) := by decide +kernel
theorem lb_159 : tb_159.all (fun q => am_lb am_C0 tables_1 am_K md_159 q.1 q.2.1 q.2.2.1 q.2.2.2) = true := by decide +kernel
theorem de_160 : ∀ q ∈ tb_160, decode prog_12_method_31_code q.1 = .ok (q.2.1, q.2.2.1) := by decide +kernel
theorem lb_160 : tb_160.all (fun q => am_lb am_C0 tables_1 am_K md_160 q.1 q.2.1 q.2.2.1 q.2.2.2) = true := by decide +kernel
theorem de_161 : ∀ q ∈ tb_161, decode prog_12_method_32_code q.1 = .ok (q.2.1, q.2.2.1) := by decide +kernel
theorem lb_161 : tb_161.all (fun q => am_lb am_C0 tables_1 am_K md_161 q.1 q.2.1 q.2.2.1 q.2.2.2) = true := by decide +kernel
theorem de_162 : ∀ q ∈ tb_162, decode prog_12_method_33_code q.1 = .ok (q.2.1, q.2.2.1) := by decide +kernel
theorem lb_162 : tb_162.all (fun q => am_lb am_C0 tables_1 am_K md_162 q.1 q.2.1 q.2.2.1 q.2.2.2) = true := by decide +kernel
theorem de_163 : ∀ q ∈ tb_163, decode prog_12_method_34_code q.1 = .ok (q.2.1, q.2.2.1) := by decide +kernel
theorem lb_163 : tb_163.all (fun q => am_lb am_C0 tables_1 am_K md_163 q.1 q.2.1 q.2.2.1 q.2.2.2) = true := by decide +kernel
theorem de_164 : ∀ q ∈ tb_164, decode prog_12_method_35_code q.1 = .ok (q.2.1, q.2.2.1) := by decide +kernel
theorem lb_164 : tb_164.all (fun q => am_lb am_C0 tables_1 am_K md_164 q.1 q.2.1 q.2.2.1 q.2.2.2) = true := by decide +kernel
end
section
theorem de_165 : ∀ q ∈ tb_165, decode prog_12_method_36_code q.1 = .ok (q.2.1, q.2.2.1) := by decide +kernel
theorem lb_165 : tb_165.all (fun q => am_lb am_C0 tables_1 am_K md_165 q.1 q.2.1 q.2.2.1 q.2.2.2) = true := by decide +kernel
theorem de_166 : ∀ q ∈ tb_166, decode prog_12_method_37_code q.1 = .ok (q.2.1, q.2.2.1) := by decide +kernel
theorem lb_166 : tb_166.all (fun q => am_lb am_C0 tables_1 am_K md_166 q.1 q.2.1 q.2.2.1 q.2.2.2) = true := by decide +kernel
theorem de_167 : ∀ q ∈ tb_167, decode prog_12_method_38_code q.1 = .ok (q.2.1, q.2.2.1) := by decide +kernel
theorem lb_167 : tb_167.all (fun q => am_lb am_C0 tables_1 am_K md_167 q.1 q.2.1 q.2.2.1 q.2.2.2) = true := by decide +kernel
theorem de_168 : ∀ q ∈ tb_168, decode prog_12_method_39_code q.1 = .ok (q.2.1, q.2.2.1) := by decide +kernel
theorem lb_168 : tb_168.all (fun q => am_lb am_C0 tables_1 am_K md_168 q.1 q.2.1 q.2.2.1 q.2.2.2) = true := by decide +kernel
theorem de_169 : ∀ q ∈ tb_169, decode prog_12_method_40_code q.1 = .ok (q.2.1, q.2.2.1) := by decide +kernel
theorem lb_169 : tb_169.all (fun q => am_lb am_C0 tables_1 am_K md_169 q.1 q.2.1 q.2.2.1 q.2.2.2) = true := by decide +kernel
theorem de_170 : ∀ q ∈ tb_170, decode prog_12_method_41_code q.1 = .ok (q.2.1, q.2.2.1) := by decide +kernel
theorem lb_170 : tb_170.all (fun q => am_lb am_C0 tables_1 am_K md_170 q.1 q.2.1 q.2.2.1 q.2.2.2) = true := by decide +kernel
theorem de_171 : ∀ q ∈ tb_171, decode prog_12_method_42_code q.1 = .ok (q.2.1, q.2.2.1) := by decide +kernel
theorem lb_171 : tb_171.all (fun q => am_lb am_C0 tables_1 am_K md_171 q.1 q.2.1 q.2.2.1 q.2.2.2) = true := by decide +kernel
theorem de_172 : ∀ q ∈ tb_172, decode prog_12_method_43_code q.1 = .ok (q.2.1, q.2.2.1) := by decide +kernel
theorem lb_172 : tb_172.all (fun q => am_lb am_C0 tables_1 am_K md_172 q.1 q.2.1 q.2.2.1 q.2.2.2) = true := by decide +kernel
theorem de_173 : ∀ q ∈ tb_173, decode prog_12_method_44_code q.1 = .ok (q.2.1, q.2.2.1) := by decide +kernel
theorem lb_173 : tb_173.all (fun q => am_lb am_C0 tables_1 am_K md_173 q.1 q.2.1 q.2.2.1 q.2.2.2) = true := by decide +kernel
theorem de_174 : ∀ q ∈ tb_174, decode prog_12_method_45_code q.1 = .ok (q.2.1, q.2.2.1) := by decide +kernel
theorem lb_174 : tb_174.all (fun q => am_lb am_C0 tables_1 am_K md_174 q.1 q.2.1 q.2.2.1 q.2.2.2) = true := by decide +kernel
theorem de_175 : ∀ q ∈ tb_175, decode prog_12_method_46_code q.1 = .ok (q.2.1, q.2.2.1) := by decide +kernel
theorem lb_175 : tb_175.all (fun q => am_lb am_C0 tables_1 am_K md_175 q.1 q.2.1 q.2.2.1 q.2.2.2) = true := by decide +kernel
theorem de_176 : ∀ q ∈ tb_176, decode prog_12_method_47_code q.1 = .ok (q.2.1, q.2.2.1) := by decide +kernel
theorem lb_176 : tb_176.all (fun q => am_lb am_C0 tables_1 am_K md_176 q.1 q.2.1 q.2.2.1 q.2.2.2) = true := by decide +kernel
theorem de_177 : ∀ q ∈ tb_177, decode prog_12_method_48_code q.1 = .ok (q.2.1, q.2.2.1) := by decide +kernel
theorem lb_177 : tb_177.all (fun q => am_lb am_C0 tables_1 am_K md_177 q.1 q.2.1 q.2.2.1 q.2.2.2) = true := by decide +kernel
theorem de_178 : ∀ q ∈ tb_178, decode prog_12_method_49_code q.1 = .ok (q.2.1, q.2.2.1) := by decide +kernel
theorem lb_178 : tb_178.all (fun q => am_lb am_C0 tables_1 am_K md_178 q.1 q.2.1 q.2.2.1 q.2.2.2) = true := by decide +kernel
theorem de_179 : ∀ q ∈ tb_179, decode prog_12_method_50_code q.1 = .ok (q.2.1, q.2.2.1) := by decide +kernel
theorem lb_179 : tb_179.all (fun q => am_lb am_C0 tables_1 am_K md_179 q.1 q.2.1 q.2.2.1 q.2.2.2) = true := by decide +kernel
theorem de_180 : ∀ q ∈ tb_180, decode prog_12_method_51_code q.1 = .ok (q.2.1, q.2.2.1) := by decide +kernel
theorem lb_180 : tb_180.all (fun q => am_lb am_C0 tables_1 am_K md_180 q.1 q.2.1 q.2.2.1 q.2.2.2) = true := by decide +kernel
theorem de_181 : ∀ q ∈ tb_181, decode prog_12_method_52_code q.1 = .ok (q.2.1, q.2.2.1) := by decide +kernel
theorem lb_181 : tb_181.all (fun q => am_lb am_C0 tables_1 am_K md_181 q.1 q.2.1 q.2.2.1 q.2.2.2) = true := by decide +kernel
theorem de_182 : ∀ q ∈ tb_182, decode prog_12_method_53_code q.1 = .ok (q.2.1, q.2.2.1) := by decide +kernel
theorem lb_182 : tb_182.all (fun q => am_lb am_C0 tables_1 am_K md_182 q.1 q.2.1 q.2.2.1 q.2.2.2) = true := by decide +kernel
theorem de_183 : ∀ q ∈ tb_183, decode prog_12_method_54_code q.1 = .ok (q.2.1, q.2.2.1) := by decide +kernel
theorem lb_183 : tb_183.all (fun q => am_lb am_C0 tables_1 am_K md_183 q.1 q.2.1 q.2.2.1 q.2.2.2) = true := by decide +kernel
theorem de_184 : ∀ q ∈ tb_184, decode prog_12_method_55_code q.1 = .ok (q.2.1, q.2.2.1) := by decide +kernel
theorem lb_184 : tb_184.all (fun q => am_lb am_C0 tables_1 am_K md_184 q.1 q.2.1 q.2.2.1 q.2.2.2) = true := by decide +kernel
theorem de_185 : ∀ q ∈ tb_185, decode prog_12_method_56_code q.1 = .ok (q.2.1, q.2.2.1) := by decide +kernel
theorem lb_185 : tb_185.all (fun q => am_lb am_C0 tables_1 am_K md_185 q.1 q.2.1 q.2.2.1 q.2.2.2) = true := by decide +kernel
theorem de_186 : ∀ q ∈ tb_186, decode prog_12_method_57_code q.1 = .ok (q.2.1, q.2.2.1) := by decide +kernel
theorem lb_186 : tb_186.all (fun q => am_lb am_C0 tables_1 am_K md_186 q.1 q.2.1 q.2.2.1 q.2.2.2) = true := by decide +kernel
theorem de_187 : ∀ q ∈ tb_187, decode prog_12_method_58_code q.1 = .ok (q.2.1, q.2.2.1) := by decide +kernel
theorem lb_187 : tb_187.all (fun q => am_lb am_C0 tables_1 am_K md_187 q.1 q.2.1 q.2.2.1 q.2.2.2) = true := by decide +kernel
theorem de_188 : ∀ q ∈ tb_188, decode prog_12_method_59_code q.1 = .ok (q.2.1, q.2.2.1) := by decide +kernel
theorem lb_188 : tb_188.all (fun q => am_lb am_C0 tables_1 am_K md_188 q.1 q.2.1 q.2.2.1 q.2.2.2) = true := by decide +kernel
theorem de_189 : ∀ q ∈ tb_189, decode prog_12_method_60_code q.1 = .ok (q.2.1, q.2.2.1) := by decide +kernel
theorem lb_189 : tb_189.all (fun q => am_lb am_C0 tables_1 am_K md_189 q.1 q.2.1 q.2.2.1 q.2.2.2) = true := by decide +kernel
theorem de_190 : ∀ q ∈ tb_190, decode prog_12_method_61_code q.1 = .ok (q.2.1, q.2.2.1) := by decide +kernel
theorem lb_190 : tb_190.all (fun q => am_lb am_C0 tables_1 am_K md_190 q.1 q.2.1 q.2.2.1 q.2.2.2) = true := by decide +kernel
theorem de_191 : ∀ q ∈ tb_191, decode prog_12_method_62_code q.1 = .ok (q.2.1, q.2.2.1) := by decide +kernel
theorem lb_191 : tb_191.all (fun q => am_lb am_C0 tables_1 am_K md_191 q.1 q.2.1 q.2.2.1 q.2.2.2) = true := by decide +kernel
theorem de_192 : ∀ q ∈ tb_192, decode prog_12_method_63_code q.1 = .ok (q.2.1, q.2.2.1) := by decide +kernel
theorem lb_192 : tb_192.all (fun q => am_lb am_C0 tables_1 am_K md_192 q.1 q.2.1 q.2.2.1 q.2.2.2) = true := by decide +kernel
theorem de_193 : ∀ q ∈ tb_193, decode prog_12_method_64_code q.1 = .ok (q.2.1, q.2.2.1) := by decide +kernel
theorem lb_193 : tb_193.all (fun q => am_lb am_C0 tables_1 am_K md_193 q.1 q.2.1 q.2.2.1 q.2.2.2) = true := by decide +kernel
theorem de_194 : ∀ q ∈ tb_194, decode prog_12_method_65_code q.1 = .ok (q.2.1, q.2.2.1) := by decide +kernel
theorem lb_194 : tb_194.all (fun q => am_lb am_C0 tables_1 am_K md_194 q.1 q.2.1 q.2.2.1 q.2.2.2) = true := by decide +kernel
theorem de_195 : ∀ q ∈ tb_195, decode prog_12_method_66_code q.1 = .ok (q.2.1, q.2.2.1) := by decide +kernel
theorem lb_195 : tb_195.all (fun q => am_lb am_C0 tables_1 am_K md_195 q.1 q.2.1 q.2.2.1 q.2.2.2) = true := by decide +kernel
theorem de_196 : ∀ q ∈ tb_196, decode prog_12_method_67_code q.1 = .ok (q.2.1, q.2.2.1) := by decide +kernel
theorem lb_196 : tb_196.all (fun q => am_lb am_C0 tables_1 am_K md_196 q.1 q.2.1 q.2.2.1 q.2.2.2) = true := by decide +kernel
theorem de_197 : ∀ q ∈ tb_197, decode prog_12_method_68_code q.1 = .ok (q.2.1, q.2.2.1) := by decide +kernel
theorem lb_197 : tb_197.all (fun q => am_lb am_C0 tables_1 am_K md_197 q.1 q.2.1 q.2.2.1 q.2.2.2) = true := by decide +kernel
theorem de_198 : ∀ q ∈ tb_198, decode prog_12_method_69_code q.1 = .ok (q.2.1, q.2.2.1) := by decide +kernel
theorem lb_198 : tb_198.all (fun q => am_lb am_C0 tables_1 am_K md_198 q.1 q.2.1 q.2.2.1 q.2.2.2) = true := by decide +kernel
theorem de_199 : ∀ q ∈ tb_199, decode prog_12_method_70_code q.1 = .ok (q.2.1, q.2.2.1) := by decide +kernel
theorem lb_199 : tb_199.all (fun q => am_lb am_C0 tables_1 am_K md_199 q.1 q.2.1 q.2.2.1 q.2.2.2) = true := by decide +kernel
theorem de_200 : ∀ q ∈ tb_200, decode prog_12_method_71_code q.1 = .ok (q.2.1, q.2.2.1) := by decide +kernel
theorem lb_200 : tb_200.all (fun q => am_lb am_C0 tables_1 am_K md_200 q.1 q.2.1 q.2.2.1 q.2.2.2) = true := by decide +kernel
theorem de_201 : ∀ q ∈ tb_201, decode prog_12_method_72_code q.1 = .ok (q.2.1, q.2.2.1) := by decide +kernel
theorem lb_201 : tb_201.all (fun q => am_lb am_C0 tables_1 am_K md_201 q.1 q.2.1 q.2.2.1 q.2.2.2) = true := by decide +kernel
end
section
theorem am_nc {α : Type} {p : Nat → α → Prop} {a : α} {l : List α} {k : Nat} (h : p k a) (hl : ∀ (i : Nat) (b : α), l[i]? = some b → p (k + 1 + i) b) : ∀ (i : Nat) (b : α), (a :: l)[i]? = some b → p (k + i) b := by
  intro i b hb
  cases i with
  | zero =>
    cases hb
    exact h
  | succ i =>
    have h2 := hl i b hb
    rwa [show k + 1 + i = k + (i + 1) by omega] at h2
theorem am_nn {α : Type} {p : Nat → α → Prop} {k : Nat} : ∀ (i : Nat) (b : α), ([] : List α)[i]? = some b → p (k + i) b := fun i b hb => by simp at hb
def am_pk (j : Nat) (N : am_M) : Prop := ∀ k, am_K[j]? = some k → j ≠ 0 → am_ki am_GG N k
def am_pm (xs : Option (List Int32)) (j : Nat) (M : am_M) : Prop := (∀ q ∈ M.2.2.2.2, am_ok (am_CX xs) am_GG M q) ∧ (j ≠ 0 → am_mc am_GG M)
def am_pc1 (xs : Option (List Int32)) (j : Nat) (q : vw_C) : Prop := am_co (am_CX xs) am_GG j q
set_option maxRecDepth 100000 in
set_option maxHeartbeats 4000000 in
theorem am_kall : ∀ (mi k : Nat) (N : am_M), am_P[mi]? = some N → am_K[mi]? = some k → mi ≠ 0 → am_ki am_GG N k := by
  have H : ∀ (i : Nat) (N : am_M), am_P[i]? = some N → am_pk (0 + i) N := by
    unfold am_P
    refine am_nc (p := am_pk) (k := 0) (fun k _ h => absurd rfl h) ?_
    refine am_nc (p := am_pk) (k := 1) (fun k hk _ => by cases (show some 2 = some k from hk); exact ki_1) ?_
    refine am_nc (p := am_pk) (k := 2) (fun k hk _ => by cases (show some 0 = some k from hk); exact ki_2) ?_
    refine am_nc (p := am_pk) (k := 3) (fun k hk _ => by cases (show some 0 = some k from hk); exact ki_3) ?_
    refine am_nc (p := am_pk) (k := 4) (fun k hk _ => by cases (show some 0 = some k from hk); exact ki_4) ?_
    refine am_nc (p := am_pk) (k := 5) (fun k hk _ => by cases (show some 0 = some k from hk); exact ki_5) ?_
    refine am_nc (p := am_pk) (k := 6) (fun k hk _ => by cases (show some 0 = some k from hk); exact ki_6) ?_
    refine am_nc (p := am_pk) (k := 7) (fun k hk _ => by cases (show some 0 = some k from hk); exact ki_7) ?_
    refine am_nc (p := am_pk) (k := 8) (fun k hk _ => by cases (show some 0 = some k from hk); exact ki_8) ?_
    refine am_nc (p := am_pk) (k := 9) (fun k hk _ => by cases (show some 0 = some k from hk); exact ki_9) ?_
    refine am_nc (p := am_pk) (k := 10) (fun k hk _ => by cases (show some 0 = some k from hk); exact ki_10) ?_
    refine am_nc (p := am_pk) (k := 11) (fun k hk _ => by cases (show some 0 = some k from hk); exact ki_11) ?_
    refine am_nc (p := am_pk) (k := 12) (fun k hk _ => by cases (show some 1 = some k from hk); exact ki_12) ?_
    refine am_nc (p := am_pk) (k := 13) (fun k hk _ => by cases (show some 0 = some k from hk); exact ki_13) ?_
    refine am_nc (p := am_pk) (k := 14) (fun k hk _ => by cases (show some 0 = some k from hk); exact ki_14) ?_
    refine am_nc (p := am_pk) (k := 15) (fun k hk _ => by cases (show some 0 = some k from hk); exact ki_15) ?_
    refine am_nc (p := am_pk) (k := 16) (fun k hk _ => by cases (show some 0 = some k from hk); exact ki_16) ?_
    refine am_nc (p := am_pk) (k := 17) (fun k hk _ => by cases (show some 0 = some k from hk); exact ki_17) ?_
    refine am_nc (p := am_pk) (k := 18) (fun k hk _ => by cases (show some 0 = some k from hk); exact ki_18) ?_
    refine am_nc (p := am_pk) (k := 19) (fun k hk _ => by cases (show some 1 = some k from hk); exact ki_19) ?_
    refine am_nc (p := am_pk) (k := 20) (fun k hk _ => by cases (show some 1 = some k from hk); exact ki_20) ?_
    refine am_nc (p := am_pk) (k := 21) (fun k hk _ => by cases (show some 1 = some k from hk); exact ki_21) ?_
    refine am_nc (p := am_pk) (k := 22) (fun k hk _ => by cases (show some 1 = some k from hk); exact ki_22) ?_
    refine am_nc (p := am_pk) (k := 23) (fun k hk _ => by cases (show some 2 = some k from hk); exact ki_23) ?_
    refine am_nc (p := am_pk) (k := 24) (fun k hk _ => by cases (show some 0 = some k from hk); exact ki_24) ?_
    refine am_nc (p := am_pk) (k := 25) (fun k hk _ => by cases (show some 0 = some k from hk); exact ki_25) ?_
    refine am_nc (p := am_pk) (k := 26) (fun k hk _ => by cases (show some 0 = some k from hk); exact ki_26) ?_
    refine am_nc (p := am_pk) (k := 27) (fun k hk _ => by cases (show some 0 = some k from hk); exact ki_27) ?_
    refine am_nc (p := am_pk) (k := 28) (fun k hk _ => by cases (show some 2 = some k from hk); exact ki_28) ?_
    refine am_nc (p := am_pk) (k := 29) (fun k hk _ => by cases (show some 0 = some k from hk); exact ki_29) ?_
    refine am_nc (p := am_pk) (k := 30) (fun k hk _ => by cases (show some 0 = some k from hk); exact ki_30) ?_
    refine am_nc (p := am_pk) (k := 31) (fun k hk _ => by cases (show some 0 = some k from hk); exact ki_31) ?_
    refine am_nc (p := am_pk) (k := 32) (fun k hk _ => by cases (show some 0 = some k from hk); exact ki_32) ?_
    refine am_nc (p := am_pk) (k := 33) (fun k hk _ => by cases (show some 0 = some k from hk); exact ki_33) ?_
    refine am_nc (p := am_pk) (k := 34) (fun k hk _ => by cases (show some 0 = some k from hk); exact ki_34) ?_
    refine am_nc (p := am_pk) (k := 35) (fun k hk _ => by cases (show some 0 = some k from hk); exact ki_35) ?_
    refine am_nc (p := am_pk) (k := 36) (fun k hk _ => by cases (show some 0 = some k from hk); exact ki_36) ?_
    refine am_nc (p := am_pk) (k := 37) (fun k hk _ => by cases (show some 0 = some k from hk); exact ki_37) ?_
    refine am_nc (p := am_pk) (k := 38) (fun k hk _ => by cases (show some 0 = some k from hk); exact ki_38) ?_
    refine am_nc (p := am_pk) (k := 39) (fun k hk _ => by cases (show some 2 = some k from hk); exact ki_39) ?_
    refine am_nc (p := am_pk) (k := 40) (fun k hk _ => by cases (show some 0 = some k from hk); exact ki_40) ?_
    refine am_nc (p := am_pk) (k := 41) (fun k hk _ => by cases (show some 0 = some k from hk); exact ki_41) ?_
    refine am_nc (p := am_pk) (k := 42) (fun k hk _ => by cases (show some 0 = some k from hk); exact ki_42) ?_
    refine am_nc (p := am_pk) (k := 43) (fun k hk _ => by cases (show some 0 = some k from hk); exact ki_43) ?_
    refine am_nc (p := am_pk) (k := 44) (fun k hk _ => by cases (show some 0 = some k from hk); exact ki_44) ?_
    refine am_nc (p := am_pk) (k := 45) (fun k hk _ => by cases (show some 0 = some k from hk); exact ki_45) ?_
    refine am_nc (p := am_pk) (k := 46) (fun k hk _ => by cases (show some 0 = some k from hk); exact ki_46) ?_
    refine am_nc (p := am_pk) (k := 47) (fun k hk _ => by cases (show some 0 = some k from hk); exact ki_47) ?_
    refine am_nc (p := am_pk) (k := 48) (fun k hk _ => by cases (show some 0 = some k from hk); exact ki_48) ?_
    refine am_nc (p := am_pk) (k := 49) (fun k hk _ => by cases (show some 0 = some k from hk); exact ki_49) ?_
    refine am_nc (p := am_pk) (k := 50) (fun k hk _ => by cases (show some 0 = some k from hk); exact ki_50) ?_
    refine am_nc (p := am_pk) (k := 51) (fun k hk _ => by cases (show some 0 = some k from hk); exact ki_51) ?_
    refine am_nc (p := am_pk) (k := 52) (fun k hk _ => by cases (show some 0 = some k from hk); exact ki_52) ?_
    refine am_nc (p := am_pk) (k := 53) (fun k hk _ => by cases (show some 0 = some k from hk); exact ki_53) ?_
    refine am_nc (p := am_pk) (k := 54) (fun k hk _ => by cases (show some 0 = some k from hk); exact ki_54) ?_
    refine am_nc (p := am_pk) (k := 55) (fun k hk _ => by cases (show some 0 = some k from hk); exact ki_55) ?_
    refine am_nc (p := am_pk) (k := 56) (fun k hk _ => by cases (show some 0 = some k from hk); exact ki_56) ?_
    refine am_nc (p := am_pk) (k := 57) (fun k hk _ => by cases (show some 0 = some k from hk); exact ki_57) ?_
    refine am_nc (p := am_pk) (k := 58) (fun k hk _ => by cases (show some 0 = some k from hk); exact ki_58) ?_
    refine am_nc (p := am_pk) (k := 59) (fun k hk _ => by cases (show some 0 = some k from hk); exact ki_59) ?_
    refine am_nc (p := am_pk) (k := 60) (fun k hk _ => by cases (show some 0 = some k from hk); exact ki_60) ?_
    refine am_nc (p := am_pk) (k := 61) (fun k hk _ => by cases (show some 0 = some k from hk); exact ki_61) ?_
    refine am_nc (p := am_pk) (k := 62) (fun k hk _ => by cases (show some 0 = some k from hk); exact ki_62) ?_
    refine am_nc (p := am_pk) (k := 63) (fun k hk _ => by cases (show some 0 = some k from hk); exact ki_63) ?_
    refine am_nc (p := am_pk) (k := 64) (fun k hk _ => by cases (show some 0 = some k from hk); exact ki_64) ?_
    refine am_nc (p := am_pk) (k := 65) (fun k hk _ => by cases (show some 0 = some k from hk); exact ki_65) ?_
    refine am_nc (p := am_pk) (k := 66) (fun k hk _ => by cases (show some 0 = some k from hk); exact ki_66) ?_
    refine am_nc (p := am_pk) (k := 67) (fun k hk _ => by cases (show some 0 = some k from hk); exact ki_67) ?_
    refine am_nc (p := am_pk) (k := 68) (fun k hk _ => by cases (show some 2 = some k from hk); exact ki_68) ?_
    refine am_nc (p := am_pk) (k := 69) (fun k hk _ => by cases (show some 0 = some k from hk); exact ki_69) ?_
    refine am_nc (p := am_pk) (k := 70) (fun k hk _ => by cases (show some 0 = some k from hk); exact ki_70) ?_
    refine am_nc (p := am_pk) (k := 71) (fun k hk _ => by cases (show some 0 = some k from hk); exact ki_71) ?_
    refine am_nc (p := am_pk) (k := 72) (fun k hk _ => by cases (show some 0 = some k from hk); exact ki_72) ?_
    refine am_nc (p := am_pk) (k := 73) (fun k hk _ => by cases (show some 0 = some k from hk); exact ki_73) ?_
    refine am_nc (p := am_pk) (k := 74) (fun k hk _ => by cases (show some 0 = some k from hk); exact ki_74) ?_
    refine am_nc (p := am_pk) (k := 75) (fun k hk _ => by cases (show some 0 = some k from hk); exact ki_75) ?_
    refine am_nc (p := am_pk) (k := 76) (fun k hk _ => by cases (show some 2 = some k from hk); exact ki_76) ?_
    refine am_nc (p := am_pk) (k := 77) (fun k hk _ => by cases (show some 0 = some k from hk); exact ki_77) ?_
    refine am_nc (p := am_pk) (k := 78) (fun k hk _ => by cases (show some 0 = some k from hk); exact ki_78) ?_
    refine am_nc (p := am_pk) (k := 79) (fun k hk _ => by cases (show some 0 = some k from hk); exact ki_79) ?_
    refine am_nc (p := am_pk) (k := 80) (fun k hk _ => by cases (show some 2 = some k from hk); exact ki_80) ?_
    refine am_nc (p := am_pk) (k := 81) (fun k hk _ => by cases (show some 1 = some k from hk); exact ki_81) ?_
    refine am_nc (p := am_pk) (k := 82) (fun k hk _ => by cases (show some 1 = some k from hk); exact ki_82) ?_
    refine am_nc (p := am_pk) (k := 83) (fun k hk _ => by cases (show some 1 = some k from hk); exact ki_83) ?_
    refine am_nc (p := am_pk) (k := 84) (fun k hk _ => by cases (show some 1 = some k from hk); exact ki_84) ?_
    refine am_nc (p := am_pk) (k := 85) (fun k hk _ => by cases (show some 0 = some k from hk); exact ki_85) ?_
    refine am_nc (p := am_pk) (k := 86) (fun k hk _ => by cases (show some 0 = some k from hk); exact ki_86) ?_
    refine am_nc (p := am_pk) (k := 87) (fun k hk _ => by cases (show some 0 = some k from hk); exact ki_87) ?_
    refine am_nc (p := am_pk) (k := 88) (fun k hk _ => by cases (show some 0 = some k from hk); exact ki_88) ?_
    refine am_nc (p := am_pk) (k := 89) (fun k hk _ => by cases (show some 0 = some k from hk); exact ki_89) ?_
    refine am_nc (p := am_pk) (k := 90) (fun k hk _ => by cases (show some 0 = some k from hk); exact ki_90) ?_
    refine am_nc (p := am_pk) (k := 91) (fun k hk _ => by cases (show some 0 = some k from hk); exact ki_91) ?_
    refine am_nc (p := am_pk) (k := 92) (fun k hk _ => by cases (show some 2 = some k from hk); exact ki_92) ?_
    refine am_nc (p := am_pk) (k := 93) (fun k hk _ => by cases (show some 1 = some k from hk); exact ki_93) ?_
    refine am_nc (p := am_pk) (k := 94) (fun k hk _ => by cases (show some 0 = some k from hk); exact ki_94) ?_
    refine am_nc (p := am_pk) (k := 95) (fun k hk _ => by cases (show some 0 = some k from hk); exact ki_95) ?_
    refine am_nc (p := am_pk) (k := 96) (fun k hk _ => by cases (show some 0 = some k from hk); exact ki_96) ?_
    refine am_nc (p := am_pk) (k := 97) (fun k hk _ => by cases (show some 0 = some k from hk); exact ki_97) ?_
    refine am_nc (p := am_pk) (k := 98) (fun k hk _ => by cases (show some 0 = some k from hk); exact ki_98) ?_
    refine am_nc (p := am_pk) (k := 99) (fun k hk _ => by cases (show some 0 = some k from hk); exact ki_99) ?_
    refine am_nc (p := am_pk) (k := 100) (fun k hk _ => by cases (show some 0 = some k from hk); exact ki_100) ?_
    refine am_nc (p := am_pk) (k := 101) (fun k hk _ => by cases (show some 0 = some k from hk); exact ki_101) ?_
    refine am_nc (p := am_pk) (k := 102) (fun k hk _ => by cases (show some 0 = some k from hk); exact ki_102) ?_
    refine am_nc (p := am_pk) (k := 103) (fun k hk _ => by cases (show some 0 = some k from hk); exact ki_103) ?_
    refine am_nc (p := am_pk) (k := 104) (fun k hk _ => by cases (show some 1 = some k from hk); exact ki_104) ?_
    refine am_nc (p := am_pk) (k := 105) (fun k hk _ => by cases (show some 0 = some k from hk); exact ki_105) ?_
    refine am_nc (p := am_pk) (k := 106) (fun k hk _ => by cases (show some 0 = some k from hk); exact ki_106) ?_
    refine am_nc (p := am_pk) (k := 107) (fun k hk _ => by cases (show some 0 = some k from hk); exact ki_107) ?_
    refine am_nc (p := am_pk) (k := 108) (fun k hk _ => by cases (show some 2 = some k from hk); exact ki_108) ?_
    refine am_nc (p := am_pk) (k := 109) (fun k hk _ => by cases (show some 0 = some k from hk); exact ki_109) ?_
    refine am_nc (p := am_pk) (k := 110) (fun k hk _ => by cases (show some 0 = some k from hk); exact ki_110) ?_
    refine am_nc (p := am_pk) (k := 111) (fun k hk _ => by cases (show some 0 = some k from hk); exact ki_111) ?_
    refine am_nc (p := am_pk) (k := 112) (fun k hk _ => by cases (show some 0 = some k from hk); exact ki_112) ?_
    refine am_nc (p := am_pk) (k := 113) (fun k hk _ => by cases (show some 0 = some k from hk); exact ki_113) ?_
    refine am_nc (p := am_pk) (k := 114) (fun k hk _ => by cases (show some 0 = some k from hk); exact ki_114) ?_
    refine am_nc (p := am_pk) (k := 115) (fun k hk _ => by cases (show some 0 = some k from hk); exact ki_115) ?_
    refine am_nc (p := am_pk) (k := 116) (fun k hk _ => by cases (show some 0 = some k from hk); exact ki_116) ?_
    refine am_nc (p := am_pk) (k := 117) (fun k hk _ => by cases (show some 0 = some k from hk); exact ki_117) ?_
    refine am_nc (p := am_pk) (k := 118) (fun k hk _ => by cases (show some 0 = some k from hk); exact ki_118) ?_
    refine am_nc (p := am_pk) (k := 119) (fun k hk _ => by cases (show some 0 = some k from hk); exact ki_119) ?_
    refine am_nc (p := am_pk) (k := 120) (fun k hk _ => by cases (show some 0 = some k from hk); exact ki_120) ?_
    refine am_nc (p := am_pk) (k := 121) (fun k hk _ => by cases (show some 0 = some k from hk); exact ki_121) ?_
    refine am_nc (p := am_pk) (k := 122) (fun k hk _ => by cases (show some 0 = some k from hk); exact ki_122) ?_
    refine am_nc (p := am_pk) (k := 123) (fun k hk _ => by cases (show some 0 = some k from hk); exact ki_123) ?_
    refine am_nc (p := am_pk) (k := 124) (fun k hk _ => by cases (show some 0 = some k from hk); exact ki_124) ?_
    refine am_nc (p := am_pk) (k := 125) (fun k hk _ => by cases (show some 0 = some k from hk); exact ki_125) ?_
    refine am_nc (p := am_pk) (k := 126) (fun k hk _ => by cases (show some 0 = some k from hk); exact ki_126) ?_
    refine am_nc (p := am_pk) (k := 127) (fun k hk _ => by cases (show some 0 = some k from hk); exact ki_127) ?_
    refine am_nc (p := am_pk) (k := 128) (fun k hk _ => by cases (show some 0 = some k from hk); exact ki_128) ?_
    refine am_nc (p := am_pk) (k := 129) (fun k hk _ => by cases (show some 0 = some k from hk); exact ki_129) ?_
    refine am_nc (p := am_pk) (k := 130) (fun k hk _ => by cases (show some 2 = some k from hk); exact ki_130) ?_
    refine am_nc (p := am_pk) (k := 131) (fun k hk _ => by cases (show some 1 = some k from hk); exact ki_131) ?_
    refine am_nc (p := am_pk) (k := 132) (fun k hk _ => by cases (show some 0 = some k from hk); exact ki_132) ?_
    refine am_nc (p := am_pk) (k := 133) (fun k hk _ => by cases (show some 0 = some k from hk); exact ki_133) ?_
    refine am_nc (p := am_pk) (k := 134) (fun k hk _ => by cases (show some 0 = some k from hk); exact ki_134) ?_
    refine am_nc (p := am_pk) (k := 135) (fun k hk _ => by cases (show some 0 = some k from hk); exact ki_135) ?_
    refine am_nc (p := am_pk) (k := 136) (fun k hk _ => by cases (show some 0 = some k from hk); exact ki_136) ?_
    refine am_nc (p := am_pk) (k := 137) (fun k hk _ => by cases (show some 1 = some k from hk); exact ki_137) ?_
    refine am_nc (p := am_pk) (k := 138) (fun k hk _ => by cases (show some 1 = some k from hk); exact ki_138) ?_
    refine am_nc (p := am_pk) (k := 139) (fun k hk _ => by cases (show some 1 = some k from hk); exact ki_139) ?_
    refine am_nc (p := am_pk) (k := 140) (fun k hk _ => by cases (show some 0 = some k from hk); exact ki_140) ?_
    refine am_nc (p := am_pk) (k := 141) (fun k hk _ => by cases (show some 0 = some k from hk); exact ki_141) ?_
    refine am_nc (p := am_pk) (k := 142) (fun k hk _ => by cases (show some 0 = some k from hk); exact ki_142) ?_
    refine am_nc (p := am_pk) (k := 143) (fun k hk _ => by cases (show some 0 = some k from hk); exact ki_143) ?_
    refine am_nc (p := am_pk) (k := 144) (fun k hk _ => by cases (show some 0 = some k from hk); exact ki_144) ?_
    refine am_nc (p := am_pk) (k := 145) (fun k hk _ => by cases (show some 0 = some k from hk); exact ki_145) ?_
    refine am_nc (p := am_pk) (k := 146) (fun k hk _ => by cases (show some 0 = some k from hk); exact ki_146) ?_
    refine am_nc (p := am_pk) (k := 147) (fun k hk _ => by cases (show some 0 = some k from hk); exact ki_147) ?_
    refine am_nc (p := am_pk) (k := 148) (fun k hk _ => by cases (show some 0 = some k from hk); exact ki_148) ?_
    refine am_nc (p := am_pk) (k := 149) (fun k hk _ => by cases (show some 0 = some k from hk); exact ki_149) ?_
    refine am_nc (p := am_pk) (k := 150) (fun k hk _ => by cases (show some 0 = some k from hk); exact ki_150) ?_
    refine am_nc (p := am_pk) (k := 151) (fun k hk _ => by cases (show some 0 = some k from hk); exact ki_151) ?_
    refine am_nc (p := am_pk) (k := 152) (fun k hk _ => by cases (show some 0 = some k from hk); exact ki_152) ?_
    refine am_nc (p := am_pk) (k := 153) (fun k hk _ => by cases (show some 0 = some k from hk); exact ki_153) ?_
    refine am_nc (p := am_pk) (k := 154) (fun k hk _ => by cases (show some 0 = some k from hk); exact ki_154) ?_
    refine am_nc (p := am_pk) (k := 155) (fun k hk _ => by cases (show some 0 = some k from hk); exact ki_155) ?_
    refine am_nc (p := am_pk) (k := 156) (fun k hk _ => by cases (show some 0 = some k from hk); exact ki_156) ?_
    refine am_nc (p := am_pk) (k := 157) (fun k hk _ => by cases (show some 0 = some k from hk); exact ki_157) ?_
    refine am_nc (p := am_pk) (k := 158) (fun k hk _ => by cases (show some 0 = some k from hk); exact ki_158) ?_
    refine am_nc (p := am_pk) (k := 159) (fun k hk _ => by cases (show some 0 = some k from hk); exact ki_159) ?_
    refine am_nc (p := am_pk) (k := 160) (fun k hk _ => by cases (show some 0 = some k from hk); exact ki_160) ?_
    refine am_nc (p := am_pk) (k := 161) (fun k hk _ => by cases (show some 0 = some k from hk); exact ki_161) ?_
    refine am_nc (p := am_pk) (k := 162) (fun k hk _ => by cases (show some 0 = some k from hk); exact ki_162) ?_
    refine am_nc (p := am_pk) (k := 163) (fun k hk _ => by cases (show some 0 = some k from hk); exact ki_163) ?_
    refine am_nc (p := am_pk) (k := 164) (fun k hk _ => by cases (show some 0 = some k from hk); exact ki_164) ?_
    refine am_nc (p := am_pk) (k := 165) (fun k hk _ => by cases (show some 0 = some k from hk); exact ki_165) ?_
    refine am_nc (p := am_pk) (k := 166) (fun k hk _ => by cases (show some 0 = some k from hk); exact ki_166) ?_
    refine am_nc (p := am_pk) (k := 167) (fun k hk _ => by cases (show some 0 = some k from hk); exact ki_167) ?_
    refine am_nc (p := am_pk) (k := 168) (fun k hk _ => by cases (show some 0 = some k from hk); exact ki_168) ?_
    refine am_nc (p := am_pk) (k := 169) (fun k hk _ => by cases (show some 0 = some k from hk); exact ki_169) ?_
    refine am_nc (p := am_pk) (k := 170) (fun k hk _ => by cases (show some 0 = some k from hk); exact ki_170) ?_
    refine am_nc (p := am_pk) (k := 171) (fun k hk _ => by cases (show some 0 = some k from hk); exact ki_171) ?_
    refine am_nc (p := am_pk) (k := 172) (fun k hk _ => by cases (show some 0 = some k from hk); exact ki_172) ?_
    refine am_nc (p := am_pk) (k := 173) (fun k hk _ => by cases (show some 0 = some k from hk); exact ki_173) ?_
    refine am_nc (p := am_pk) (k := 174) (fun k hk _ => by cases (show some 0 = some k from hk); exact ki_174) ?_
    refine am_nc (p := am_pk) (k := 175) (fun k hk _ => by cases (show some 0 = some k from hk); exact ki_175) ?_
    refine am_nc (p := am_pk) (k := 176) (fun k hk _ => by cases (show some 0 = some k from hk); exact ki_176) ?_
    refine am_nc (p := am_pk) (k := 177) (fun k hk _ => by cases (show some 0 = some k from hk); exact ki_177) ?_
    refine am_nc (p := am_pk) (k := 178) (fun k hk _ => by cases (show some 0 = some k from hk); exact ki_178) ?_
    refine am_nc (p := am_pk) (k := 179) (fun k hk _ => by cases (show some 0 = some k from hk); exact ki_179) ?_
    refine am_nc (p := am_pk) (k := 180) (fun k hk _ => by cases (show some 0 = some k from hk); exact ki_180) ?_
    refine am_nc (p := am_pk) (k := 181) (fun k hk _ => by cases (show some 0 = some k from hk); exact ki_181) ?_
    refine am_nc (p := am_pk) (k := 182) (fun k hk _ => by cases (show some 0 = some k from hk); exact ki_182) ?_
    refine am_nc (p := am_pk) (k := 183) (fun k hk _ => by cases (show some 0 = some k from hk); exact ki_183) ?_
    refine am_nc (p := am_pk) (k := 184) (fun k hk _ => by cases (show some 0 = some k from hk); exact ki_184) ?_
    refine am_nc (p := am_pk) (k := 185) (fun k hk _ => by cases (show some 0 = some k from hk); exact ki_185) ?_
    refine am_nc (p := am_pk) (k := 186) (fun k hk _ => by cases (show some 0 = some k from hk); exact ki_186) ?_
    refine am_nc (p := am_pk) (k := 187) (fun k hk _ => by cases (show some 0 = some k from hk); exact ki_187) ?_
    refine am_nc (p := am_pk) (k := 188) (fun k hk _ => by cases (show some 0 = some k from hk); exact ki_188) ?_
    refine am_nc (p := am_pk) (k := 189) (fun k hk _ => by cases (show some 0 = some k from hk); exact ki_189) ?_
    refine am_nc (p := am_pk) (k := 190) (fun k hk _ => by cases (show some 0 = some k from hk); exact ki_190) ?_
    refine am_nc (p := am_pk) (k := 191) (fun k hk _ => by cases (show some 0 = some k from hk); exact ki_191) ?_
    refine am_nc (p := am_pk) (k := 192) (fun k hk _ => by cases (show some 0 = some k from hk); exact ki_192) ?_
    refine am_nc (p := am_pk) (k := 193) (fun k hk _ => by cases (show some 0 = some k from hk); exact ki_193) ?_
    refine am_nc (p := am_pk) (k := 194) (fun k hk _ => by cases (show some 0 = some k from hk); exact ki_194) ?_
    refine am_nc (p := am_pk) (k := 195) (fun k hk _ => by cases (show some 0 = some k from hk); exact ki_195) ?_
    refine am_nc (p := am_pk) (k := 196) (fun k hk _ => by cases (show some 0 = some k from hk); exact ki_196) ?_
    refine am_nc (p := am_pk) (k := 197) (fun k hk _ => by cases (show some 0 = some k from hk); exact ki_197) ?_
    refine am_nc (p := am_pk) (k := 198) (fun k hk _ => by cases (show some 1 = some k from hk); exact ki_198) ?_
    refine am_nc (p := am_pk) (k := 199) (fun k hk _ => by cases (show some 0 = some k from hk); exact ki_199) ?_
    refine am_nc (p := am_pk) (k := 200) (fun k hk _ => by cases (show some 0 = some k from hk); exact ki_200) ?_
    refine am_nc (p := am_pk) (k := 201) (fun k hk _ => by cases (show some 0 = some k from hk); exact ki_201) ?_
    exact am_nn
  intro mi k N h1 h2 h3
  exact H mi N h1 k (by rw [Nat.zero_add]; exact h2) (by rw [Nat.zero_add]; exact h3)
set_option maxRecDepth 100000 in
set_option maxHeartbeats 4000000 in
theorem am_mall (xs : Option (List Int32)) : ∀ (mi : Nat) (M : am_M), am_P[mi]? = some M → (∀ q ∈ M.2.2.2.2, am_ok (am_CX xs) am_GG M q) ∧ (mi ≠ 0 → am_mc am_GG M) := by
  have H : ∀ (i : Nat) (M : am_M), am_P[i]? = some M → am_pm xs (0 + i) M := by
    unfold am_P
    refine am_nc (p := am_pm xs) (k := 0) ⟨am_tb_ok (T := tables_1) (K := am_K) (M := md_0) am_tall am_kall de_0 lb_0, fun h => absurd rfl h⟩ ?_
    refine am_nc (p := am_pm xs) (k := 1) ⟨am_tb_ok (T := tables_1) (K := am_K) (M := md_1) am_tall am_kall de_1 lb_1, fun _ => mc_1⟩ ?_
    refine am_nc (p := am_pm xs) (k := 2) ⟨am_tb_ok (T := tables_1) (K := am_K) (M := md_2) am_tall am_kall de_2 lb_2, fun _ => mc_2⟩ ?_
    refine am_nc (p := am_pm xs) (k := 3) ⟨am_tb_ok (T := tables_1) (K := am_K) (M := md_3) am_tall am_kall de_3 lb_3, fun _ => mc_3⟩ ?_
    refine am_nc (p := am_pm xs) (k := 4) ⟨am_tb_ok (T := tables_1) (K := am_K) (M := md_4) am_tall am_kall de_4 lb_4, fun _ => mc_4⟩ ?_
    refine am_nc (p := am_pm xs) (k := 5) ⟨am_tb_ok (T := tables_1) (K := am_K) (M := md_5) am_tall am_kall de_5 lb_5, fun _ => mc_5⟩ ?_
    refine am_nc (p := am_pm xs) (k := 6) ⟨am_tb_ok (T := tables_1) (K := am_K) (M := md_6) am_tall am_kall de_6 lb_6, fun _ => mc_6⟩ ?_
    refine am_nc (p := am_pm xs) (k := 7) ⟨am_tb_ok (T := tables_1) (K := am_K) (M := md_7) am_tall am_kall de_7 lb_7, fun _ => mc_7⟩ ?_
    refine am_nc (p := am_pm xs) (k := 8) ⟨am_tb_ok (T := tables_1) (K := am_K) (M := md_8) am_tall am_kall de_8 lb_8, fun _ => mc_8⟩ ?_
    refine am_nc (p := am_pm xs) (k := 9) ⟨am_tb_ok (T := tables_1) (K := am_K) (M := md_9) am_tall am_kall de_9 lb_9, fun _ => mc_9⟩ ?_
    refine am_nc (p := am_pm xs) (k := 10) ⟨am_tb_ok (T := tables_1) (K := am_K) (M := md_10) am_tall am_kall de_10 lb_10, fun _ => mc_10⟩ ?_
    refine am_nc (p := am_pm xs) (k := 11) ⟨am_tb_ok (T := tables_1) (K := am_K) (M := md_11) am_tall am_kall de_11 lb_11, fun _ => mc_11⟩ ?_
    refine am_nc (p := am_pm xs) (k := 12) ⟨am_tb_ok (T := tables_1) (K := am_K) (M := md_12) am_tall am_kall de_12 lb_12, fun _ => mc_12⟩ ?_
    refine am_nc (p := am_pm xs) (k := 13) ⟨am_tb_ok (T := tables_1) (K := am_K) (M := md_13) am_tall am_kall de_13 lb_13, fun _ => mc_13⟩ ?_
    refine am_nc (p := am_pm xs) (k := 14) ⟨am_tb_ok (T := tables_1) (K := am_K) (M := md_14) am_tall am_kall de_14 lb_14, fun _ => mc_14⟩ ?_
    refine am_nc (p := am_pm xs) (k := 15) ⟨am_tb_ok (T := tables_1) (K := am_K) (M := md_15) am_tall am_kall de_15 lb_15, fun _ => mc_15⟩ ?_
    refine am_nc (p := am_pm xs) (k := 16) ⟨am_tb_ok (T := tables_1) (K := am_K) (M := md_16) am_tall am_kall de_16 lb_16, fun _ => mc_16⟩ ?_
    refine am_nc (p := am_pm xs) (k := 17) ⟨am_tb_ok (T := tables_1) (K := am_K) (M := md_17) am_tall am_kall de_17 lb_17, fun _ => mc_17⟩ ?_
    refine am_nc (p := am_pm xs) (k := 18) ⟨am_tb_ok (T := tables_1) (K := am_K) (M := md_18) am_tall am_kall de_18 lb_18, fun _ => mc_18⟩ ?_
    refine am_nc (p := am_pm xs) (k := 19) ⟨am_tb_ok (T := tables_1) (K := am_K) (M := md_19) am_tall am_kall de_19 lb_19, fun _ => mc_19⟩ ?_
    refine am_nc (p := am_pm xs) (k := 20) ⟨am_tb_ok (T := tables_1) (K := am_K) (M := md_20) am_tall am_kall de_20 lb_20, fun _ => mc_20⟩ ?_
    refine am_nc (p := am_pm xs) (k := 21) ⟨am_tb_ok (T := tables_1) (K := am_K) (M := md_21) am_tall am_kall de_21 lb_21, fun _ => mc_21⟩ ?_
    refine am_nc (p := am_pm xs) (k := 22) ⟨am_tb_ok (T := tables_1) (K := am_K) (M := md_22) am_tall am_kall de_22 lb_22, fun _ => mc_22⟩ ?_
    refine am_nc (p := am_pm xs) (k := 23) ⟨am_tb_ok (T := tables_1) (K := am_K) (M := md_23) am_tall am_kall de_23 lb_23, fun _ => mc_23⟩ ?_
    refine am_nc (p := am_pm xs) (k := 24) ⟨am_tb_ok (T := tables_1) (K := am_K) (M := md_24) am_tall am_kall de_24 lb_24, fun _ => mc_24⟩ ?_
    refine am_nc (p := am_pm xs) (k := 25) ⟨am_tb_ok (T := tables_1) (K := am_K) (M := md_25) am_tall am_kall de_25 lb_25, fun _ => mc_25⟩ ?_
    refine am_nc (p := am_pm xs) (k := 26) ⟨am_tb_ok (T := tables_1) (K := am_K) (M := md_26) am_tall am_kall de_26 lb_26, fun _ => mc_26⟩ ?_
    refine am_nc (p := am_pm xs) (k := 27) ⟨am_tb_ok (T := tables_1) (K := am_K) (M := md_27) am_tall am_kall de_27 lb_27, fun _ => mc_27⟩ ?_
    refine am_nc (p := am_pm xs) (k := 28) ⟨am_tb_ok (T := tables_1) (K := am_K) (M := md_28) am_tall am_kall de_28 lb_28, fun _ => mc_28⟩ ?_
    refine am_nc (p := am_pm xs) (k := 29) ⟨am_tb_ok (T := tables_1) (K := am_K) (M := md_29) am_tall am_kall de_29 lb_29, fun _ => mc_29⟩ ?_
    refine am_nc (p := am_pm xs) (k := 30) ⟨am_tb_ok (T := tables_1) (K := am_K) (M := md_30) am_tall am_kall de_30 lb_30, fun _ => mc_30⟩ ?_
    refine am_nc (p := am_pm xs) (k := 31) ⟨am_tb_ok (T := tables_1) (K := am_K) (M := md_31) am_tall am_kall de_31 lb_31, fun _ => mc_31⟩ ?_
    refine am_nc (p := am_pm xs) (k := 32) ⟨am_tb_ok (T := tables_1) (K := am_K) (M := md_32) am_tall am_kall de_32 lb_32, fun _ => mc_32⟩ ?_
    refine am_nc (p := am_pm xs) (k := 33) ⟨am_tb_ok (T := tables_1) (K := am_K) (M := md_33) am_tall am_kall de_33 lb_33, fun _ => mc_33⟩ ?_
    refine am_nc (p := am_pm xs) (k := 34) ⟨am_tb_ok (T := tables_1) (K := am_K) (M := md_34) am_tall am_kall de_34 lb_34, fun _ => mc_34⟩ ?_
    refine am_nc (p := am_pm xs) (k := 35) ⟨am_tb_ok (T := tables_1) (K := am_K) (M := md_35) am_tall am_kall de_35 lb_35, fun _ => mc_35⟩ ?_
    refine am_nc (p := am_pm xs) (k := 36) ⟨am_tb_ok (T := tables_1) (K := am_K) (M := md_36) am_tall am_kall de_36 lb_36, fun _ => mc_36⟩ ?_
    refine am_nc (p := am_pm xs) (k := 37) ⟨am_tb_ok (T := tables_1) (K := am_K) (M := md_37) am_tall am_kall de_37 lb_37, fun _ => mc_37⟩ ?_
    refine am_nc (p := am_pm xs) (k := 38) ⟨am_tb_ok (T := tables_1) (K := am_K) (M := md_38) am_tall am_kall de_38 lb_38, fun _ => mc_38⟩ ?_
    refine am_nc (p := am_pm xs) (k := 39) ⟨am_tb_ok (T := tables_1) (K := am_K) (M := md_39) am_tall am_kall de_39 lb_39, fun _ => mc_39⟩ ?_
    refine am_nc (p := am_pm xs) (k := 40) ⟨am_tb_ok (T := tables_1) (K := am_K) (M := md_40) am_tall am_kall de_40 lb_40, fun _ => mc_40⟩ ?_
    refine am_nc (p := am_pm xs) (k := 41) ⟨am_tb_ok (T := tables_1) (K := am_K) (M := md_41) am_tall am_kall de_41 lb_41, fun _ => mc_41⟩ ?_
    refine am_nc (p := am_pm xs) (k := 42) ⟨am_tb_ok (T := tables_1) (K := am_K) (M := md_42) am_tall am_kall de_42 lb_42, fun _ => mc_42⟩ ?_
    refine am_nc (p := am_pm xs) (k := 43) ⟨am_tb_ok (T := tables_1) (K := am_K) (M := md_43) am_tall am_kall de_43 lb_43, fun _ => mc_43⟩ ?_
    refine am_nc (p := am_pm xs) (k := 44) ⟨am_tb_ok (T := tables_1) (K := am_K) (M := md_44) am_tall am_kall de_44 lb_44, fun _ => mc_44⟩ ?_
    refine am_nc (p := am_pm xs) (k := 45) ⟨am_tb_ok (T := tables_1) (K := am_K) (M := md_45) am_tall am_kall de_45 lb_45, fun _ => mc_45⟩ ?_
    refine am_nc (p := am_pm xs) (k := 46) ⟨am_tb_ok (T := tables_1) (K := am_K) (M := md_46) am_tall am_kall de_46 lb_46, fun _ => mc_46⟩ ?_
    refine am_nc (p := am_pm xs) (k := 47) ⟨am_tb_ok (T := tables_1) (K := am_K) (M := md_47) am_tall am_kall de_47 lb_47, fun _ => mc_47⟩ ?_
    refine am_nc (p := am_pm xs) (k := 48) ⟨am_tb_ok (T := tables_1) (K := am_K) (M := md_48) am_tall am_kall de_48 lb_48, fun _ => mc_48⟩ ?_
    refine am_nc (p := am_pm xs) (k := 49) ⟨am_tb_ok (T := tables_1) (K := am_K) (M := md_49) am_tall am_kall de_49 lb_49, fun _ => mc_49⟩ ?_
    refine am_nc (p := am_pm xs) (k := 50) ⟨am_tb_ok (T := tables_1) (K := am_K) (M := md_50) am_tall am_kall de_50 lb_50, fun _ => mc_50⟩ ?_
    refine am_nc (p := am_pm xs) (k := 51) ⟨am_tb_ok (T := tables_1) (K := am_K) (M := md_51) am_tall am_kall de_51 lb_51, fun _ => mc_51⟩ ?_
    refine am_nc (p := am_pm xs) (k := 52) ⟨am_tb_ok (T := tables_1) (K := am_K) (M := md_52) am_tall am_kall de_52 lb_52, fun _ => mc_52⟩ ?_
    refine am_nc (p := am_pm xs) (k := 53) ⟨am_tb_ok (T := tables_1) (K := am_K) (M := md_53) am_tall am_kall de_53 lb_53, fun _ => mc_53⟩ ?_
    refine am_nc (p := am_pm xs) (k := 54) ⟨am_tb_ok (T := tables_1) (K := am_K) (M := md_54) am_tall am_kall de_54 lb_54, fun _ => mc_54⟩ ?_
    refine am_nc (p := am_pm xs) (k := 55) ⟨am_tb_ok (T := tables_1) (K := am_K) (M := md_55) am_tall am_kall de_55 lb_55, fun _ => mc_55⟩ ?_
    refine am_nc (p := am_pm xs) (k := 56) ⟨am_tb_ok (T := tables_1) (K := am_K) (M := md_56) am_tall am_kall de_56 lb_56, fun _ => mc_56⟩ ?_
    refine am_nc (p := am_pm xs) (k := 57) ⟨am_tb_ok (T := tables_1) (K := am_K) (M := md_57) am_tall am_kall de_57 lb_57, fun _ => mc_57⟩ ?_
    refine am_nc (p := am_pm xs) (k := 58) ⟨am_tb_ok (T := tables_1) (K := am_K) (M := md_58) am_tall am_kall de_58 lb_58, fun _ => mc_58⟩ ?_
    refine am_nc (p := am_pm xs) (k := 59) ⟨am_tb_ok (T := tables_1) (K := am_K) (M := md_59) am_tall am_kall de_59 lb_59, fun _ => mc_59⟩ ?_
    refine am_nc (p := am_pm xs) (k := 60) ⟨am_tb_ok (T := tables_1) (K := am_K) (M := md_60) am_tall am_kall de_60 lb_60, fun _ => mc_60⟩ ?_
    refine am_nc (p := am_pm xs) (k := 61) ⟨am_tb_ok (T := tables_1) (K := am_K) (M := md_61) am_tall am_kall de_61 lb_61, fun _ => mc_61⟩ ?_
    refine am_nc (p := am_pm xs) (k := 62) ⟨am_tb_ok (T := tables_1) (K := am_K) (M := md_62) am_tall am_kall de_62 lb_62, fun _ => mc_62⟩ ?_
    refine am_nc (p := am_pm xs) (k := 63) ⟨am_tb_ok (T := tables_1) (K := am_K) (M := md_63) am_tall am_kall de_63 lb_63, fun _ => mc_63⟩ ?_
    refine am_nc (p := am_pm xs) (k := 64) ⟨am_tb_ok (T := tables_1) (K := am_K) (M := md_64) am_tall am_kall de_64 lb_64, fun _ => mc_64⟩ ?_
    refine am_nc (p := am_pm xs) (k := 65) ⟨am_tb_ok (T := tables_1) (K := am_K) (M := md_65) am_tall am_kall de_65 lb_65, fun _ => mc_65⟩ ?_
    refine am_nc (p := am_pm xs) (k := 66) ⟨am_tb_ok (T := tables_1) (K := am_K) (M := md_66) am_tall am_kall de_66 lb_66, fun _ => mc_66⟩ ?_
    refine am_nc (p := am_pm xs) (k := 67) ⟨am_tb_ok (T := tables_1) (K := am_K) (M := md_67) am_tall am_kall de_67 lb_67, fun _ => mc_67⟩ ?_
    refine am_nc (p := am_pm xs) (k := 68) ⟨am_tb_ok (T := tables_1) (K := am_K) (M := md_68) am_tall am_kall de_68 lb_68, fun _ => mc_68⟩ ?_
    refine am_nc (p := am_pm xs) (k := 69) ⟨am_tb_ok (T := tables_1) (K := am_K) (M := md_69) am_tall am_kall de_69 lb_69, fun _ => mc_69⟩ ?_
    refine am_nc (p := am_pm xs) (k := 70) ⟨am_tb_ok (T := tables_1) (K := am_K) (M := md_70) am_tall am_kall de_70 lb_70, fun _ => mc_70⟩ ?_
    refine am_nc (p := am_pm xs) (k := 71) ⟨am_tb_ok (T := tables_1) (K := am_K) (M := md_71) am_tall am_kall de_71 lb_71, fun _ => mc_71⟩ ?_
    refine am_nc (p := am_pm xs) (k := 72) ⟨am_tb_ok (T := tables_1) (K := am_K) (M := md_72) am_tall am_kall de_72 lb_72, fun _ => mc_72⟩ ?_
    refine am_nc (p := am_pm xs) (k := 73) ⟨am_tb_ok (T := tables_1) (K := am_K) (M := md_73) am_tall am_kall de_73 lb_73, fun _ => mc_73⟩ ?_
    refine am_nc (p := am_pm xs) (k := 74) ⟨am_tb_ok (T := tables_1) (K := am_K) (M := md_74) am_tall am_kall de_74 lb_74, fun _ => mc_74⟩ ?_
    refine am_nc (p := am_pm xs) (k := 75) ⟨am_tb_ok (T := tables_1) (K := am_K) (M := md_75) am_tall am_kall de_75 lb_75, fun _ => mc_75⟩ ?_
    refine am_nc (p := am_pm xs) (k := 76) ⟨am_tb_ok (T := tables_1) (K := am_K) (M := md_76) am_tall am_kall de_76 lb_76, fun _ => mc_76⟩ ?_
    refine am_nc (p := am_pm xs) (k := 77) ⟨am_tb_ok (T := tables_1) (K := am_K) (M := md_77) am_tall am_kall de_77 lb_77, fun _ => mc_77⟩ ?_
    refine am_nc (p := am_pm xs) (k := 78) ⟨am_tb_ok (T := tables_1) (K := am_K) (M := md_78) am_tall am_kall de_78 lb_78, fun _ => mc_78⟩ ?_
    refine am_nc (p := am_pm xs) (k := 79) ⟨am_tb_ok (T := tables_1) (K := am_K) (M := md_79) am_tall am_kall de_79 lb_79, fun _ => mc_79⟩ ?_
    refine am_nc (p := am_pm xs) (k := 80) ⟨am_tb_ok (T := tables_1) (K := am_K) (M := md_80) am_tall am_kall de_80 lb_80, fun _ => mc_80⟩ ?_
    refine am_nc (p := am_pm xs) (k := 81) ⟨am_tb_ok (T := tables_1) (K := am_K) (M := md_81) am_tall am_kall de_81 lb_81, fun _ => mc_81⟩ ?_
    refine am_nc (p := am_pm xs) (k := 82) ⟨am_tb_ok (T := tables_1) (K := am_K) (M := md_82) am_tall am_kall de_82 lb_82, fun _ => mc_82⟩ ?_
    refine am_nc (p := am_pm xs) (k := 83) ⟨am_tb_ok (T := tables_1) (K := am_K) (M := md_83) am_tall am_kall de_83 lb_83, fun _ => mc_83⟩ ?_
    refine am_nc (p := am_pm xs) (k := 84) ⟨am_tb_ok (T := tables_1) (K := am_K) (M := md_84) am_tall am_kall de_84 lb_84, fun _ => mc_84⟩ ?_
    refine am_nc (p := am_pm xs) (k := 85) ⟨am_tb_ok (T := tables_1) (K := am_K) (M := md_85) am_tall am_kall de_85 lb_85, fun _ => mc_85⟩ ?_
    refine am_nc (p := am_pm xs) (k := 86) ⟨am_tb_ok (T := tables_1) (K := am_K) (M := md_86) am_tall am_kall de_86 lb_86, fun _ => mc_86⟩ ?_
    refine am_nc (p := am_pm xs) (k := 87) ⟨am_tb_ok (T := tables_1) (K := am_K) (M := md_87) am_tall am_kall de_87 lb_87, fun _ => mc_87⟩ ?_
    refine am_nc (p := am_pm xs) (k := 88) ⟨am_tb_ok (T := tables_1) (K := am_K) (M := md_88) am_tall am_kall de_88 lb_88, fun _ => mc_88⟩ ?_
    refine am_nc (p := am_pm xs) (k := 89) ⟨am_tb_ok (T := tables_1) (K := am_K) (M := md_89) am_tall am_kall de_89 lb_89, fun _ => mc_89⟩ ?_
    refine am_nc (p := am_pm xs) (k := 90) ⟨am_tb_ok (T := tables_1) (K := am_K) (M := md_90) am_tall am_kall de_90 lb_90, fun _ => mc_90⟩ ?_
    refine am_nc (p := am_pm xs) (k := 91) ⟨am_tb_ok (T := tables_1) (K := am_K) (M := md_91) am_tall am_kall de_91 lb_91, fun _ => mc_91⟩ ?_
    refine am_nc (p := am_pm xs) (k := 92) ⟨am_tb_ok (T := tables_1) (K := am_K) (M := md_92) am_tall am_kall de_92 lb_92, fun _ => mc_92⟩ ?_
    refine am_nc (p := am_pm xs) (k := 93) ⟨am_tb_ok (T := tables_1) (K := am_K) (M := md_93) am_tall am_kall de_93 lb_93, fun _ => mc_93⟩ ?_
    refine am_nc (p := am_pm xs) (k := 94) ⟨am_tb_ok (T := tables_1) (K := am_K) (M := md_94) am_tall am_kall de_94 lb_94, fun _ => mc_94⟩ ?_
    refine am_nc (p := am_pm xs) (k := 95) ⟨am_tb_ok (T := tables_1) (K := am_K) (M := md_95) am_tall am_kall de_95 lb_95, fun _ => mc_95⟩ ?_
    refine am_nc (p := am_pm xs) (k := 96) ⟨am_tb_ok (T := tables_1) (K := am_K) (M := md_96) am_tall am_kall de_96 lb_96, fun _ => mc_96⟩ ?_
    refine am_nc (p := am_pm xs) (k := 97) ⟨am_tb_ok (T := tables_1) (K := am_K) (M := md_97) am_tall am_kall de_97 lb_97, fun _ => mc_97⟩ ?_
    refine am_nc (p := am_pm xs) (k := 98) ⟨am_tb_ok (T := tables_1) (K := am_K) (M := md_98) am_tall am_kall de_98 lb_98, fun _ => mc_98⟩ ?_
    refine am_nc (p := am_pm xs) (k := 99) ⟨am_tb_ok (T := tables_1) (K := am_K) (M := md_99) am_tall am_kall de_99 lb_99, fun _ => mc_99⟩ ?_
    refine am_nc (p := am_pm xs) (k := 100) ⟨am_tb_ok (T := tables_1) (K := am_K) (M := md_100) am_tall am_kall de_100 lb_100, fun _ => mc_100⟩ ?_
    refine am_nc (p := am_pm xs) (k := 101) ⟨am_tb_ok (T := tables_1) (K := am_K) (M := md_101) am_tall am_kall de_101 lb_101, fun _ => mc_101⟩ ?_
    refine am_nc (p := am_pm xs) (k := 102) ⟨am_tb_ok (T := tables_1) (K := am_K) (M := md_102) am_tall am_kall de_102 lb_102, fun _ => mc_102⟩ ?_
    refine am_nc (p := am_pm xs) (k := 103) ⟨am_tb_ok (T := tables_1) (K := am_K) (M := md_103) am_tall am_kall de_103 lb_103, fun _ => mc_103⟩ ?_
    refine am_nc (p := am_pm xs) (k := 104) ⟨am_tb_ok (T := tables_1) (K := am_K) (M := md_104) am_tall am_kall de_104 lb_104, fun _ => mc_104⟩ ?_
    refine am_nc (p := am_pm xs) (k := 105) ⟨am_tb_ok (T := tables_1) (K := am_K) (M := md_105) am_tall am_kall de_105 lb_105, fun _ => mc_105⟩ ?_
    refine am_nc (p := am_pm xs) (k := 106) ⟨am_tb_ok (T := tables_1) (K := am_K) (M := md_106) am_tall am_kall de_106 lb_106, fun _ => mc_106⟩ ?_
    refine am_nc (p := am_pm xs) (k := 107) ⟨am_tb_ok (T := tables_1) (K := am_K) (M := md_107) am_tall am_kall de_107 lb_107, fun _ => mc_107⟩ ?_
    refine am_nc (p := am_pm xs) (k := 108) ⟨am_tb_ok (T := tables_1) (K := am_K) (M := md_108) am_tall am_kall de_108 lb_108, fun _ => mc_108⟩ ?_
    refine am_nc (p := am_pm xs) (k := 109) ⟨am_tb_ok (T := tables_1) (K := am_K) (M := md_109) am_tall am_kall de_109 lb_109, fun _ => mc_109⟩ ?_
    refine am_nc (p := am_pm xs) (k := 110) ⟨am_tb_ok (T := tables_1) (K := am_K) (M := md_110) am_tall am_kall de_110 lb_110, fun _ => mc_110⟩ ?_
    refine am_nc (p := am_pm xs) (k := 111) ⟨am_tb_ok (T := tables_1) (K := am_K) (M := md_111) am_tall am_kall de_111 lb_111, fun _ => mc_111⟩ ?_
    refine am_nc (p := am_pm xs) (k := 112) ⟨am_tb_ok (T := tables_1) (K := am_K) (M := md_112) am_tall am_kall de_112 lb_112, fun _ => mc_112⟩ ?_
    refine am_nc (p := am_pm xs) (k := 113) ⟨am_tb_ok (T := tables_1) (K := am_K) (M := md_113) am_tall am_kall de_113 lb_113, fun _ => mc_113⟩ ?_
    refine am_nc (p := am_pm xs) (k := 114) ⟨am_tb_ok (T := tables_1) (K := am_K) (M := md_114) am_tall am_kall de_114 lb_114, fun _ => mc_114⟩ ?_
    refine am_nc (p := am_pm xs) (k := 115) ⟨am_tb_ok (T := tables_1) (K := am_K) (M := md_115) am_tall am_kall de_115 lb_115, fun _ => mc_115⟩ ?_
    refine am_nc (p := am_pm xs) (k := 116) ⟨am_tb_ok (T := tables_1) (K := am_K) (M := md_116) am_tall am_kall de_116 lb_116, fun _ => mc_116⟩ ?_
    refine am_nc (p := am_pm xs) (k := 117) ⟨am_tb_ok (T := tables_1) (K := am_K) (M := md_117) am_tall am_kall de_117 lb_117, fun _ => mc_117⟩ ?_
    refine am_nc (p := am_pm xs) (k := 118) ⟨am_tb_ok (T := tables_1) (K := am_K) (M := md_118) am_tall am_kall de_118 lb_118, fun _ => mc_118⟩ ?_
    refine am_nc (p := am_pm xs) (k := 119) ⟨am_tb_ok (T := tables_1) (K := am_K) (M := md_119) am_tall am_kall de_119 lb_119, fun _ => mc_119⟩ ?_
    refine am_nc (p := am_pm xs) (k := 120) ⟨am_tb_ok (T := tables_1) (K := am_K) (M := md_120) am_tall am_kall de_120 lb_120, fun _ => mc_120⟩ ?_
    refine am_nc (p := am_pm xs) (k := 121) ⟨am_tb_ok (T := tables_1) (K := am_K) (M := md_121) am_tall am_kall de_121 lb_121, fun _ => mc_121⟩ ?_
    refine am_nc (p := am_pm xs) (k := 122) ⟨am_tb_ok (T := tables_1) (K := am_K) (M := md_122) am_tall am_kall de_122 lb_122, fun _ => mc_122⟩ ?_
    refine am_nc (p := am_pm xs) (k := 123) ⟨am_tb_ok (T := tables_1) (K := am_K) (M := md_123) am_tall am_kall de_123 lb_123, fun _ => mc_123⟩ ?_
    refine am_nc (p := am_pm xs) (k := 124) ⟨am_tb_ok (T := tables_1) (K := am_K) (M := md_124) am_tall am_kall de_124 lb_124, fun _ => mc_124⟩ ?_
    refine am_nc (p := am_pm xs) (k := 125) ⟨am_tb_ok (T := tables_1) (K := am_K) (M := md_125) am_tall am_kall de_125 lb_125, fun _ => mc_125⟩ ?_
    refine am_nc (p := am_pm xs) (k := 126) ⟨am_tb_ok (T := tables_1) (K := am_K) (M := md_126) am_tall am_kall de_126 lb_126, fun _ => mc_126⟩ ?_
    refine am_nc (p := am_pm xs) (k := 127) ⟨am_tb_ok (T := tables_1) (K := am_K) (M := md_127) am_tall am_kall de_127 lb_127, fun _ => mc_127⟩ ?_
    refine am_nc (p := am_pm xs) (k := 128) ⟨am_tb_ok (T := tables_1) (K := am_K) (M := md_128) am_tall am_kall de_128 lb_128, fun _ => mc_128⟩ ?_
    refine am_nc (p := am_pm xs) (k := 129) ⟨am_tb_ok (T := tables_1) (K := am_K) (M := md_129) am_tall am_kall de_129 lb_129, fun _ => mc_129⟩ ?_
    refine am_nc (p := am_pm xs) (k := 130) ⟨am_tb_ok (T := tables_1) (K := am_K) (M := md_130) am_tall am_kall de_130 lb_130, fun _ => mc_130⟩ ?_
    refine am_nc (p := am_pm xs) (k := 131) ⟨am_tb_ok (T := tables_1) (K := am_K) (M := md_131) am_tall am_kall de_131 lb_131, fun _ => mc_131⟩ ?_
    refine am_nc (p := am_pm xs) (k := 132) ⟨am_tb_ok (T := tables_1) (K := am_K) (M := md_132) am_tall am_kall de_132 lb_132, fun _ => mc_132⟩ ?_
    refine am_nc (p := am_pm xs) (k := 133) ⟨am_tb_ok (T := tables_1) (K := am_K) (M := md_133) am_tall am_kall de_133 lb_133, fun _ => mc_133⟩ ?_
    refine am_nc (p := am_pm xs) (k := 134) ⟨am_tb_ok (T := tables_1) (K := am_K) (M := md_134) am_tall am_kall de_134 lb_134, fun _ => mc_134⟩ ?_
    refine am_nc (p := am_pm xs) (k := 135) ⟨am_tb_ok (T := tables_1) (K := am_K) (M := md_135) am_tall am_kall de_135 lb_135, fun _ => mc_135⟩ ?_
    refine am_nc (p := am_pm xs) (k := 136) ⟨am_tb_ok (T := tables_1) (K := am_K) (M := md_136) am_tall am_kall de_136 lb_136, fun _ => mc_136⟩ ?_
    refine am_nc (p := am_pm xs) (k := 137) ⟨am_tb_ok (T := tables_1) (K := am_K) (M := md_137) am_tall am_kall de_137 lb_137, fun _ => mc_137⟩ ?_
    refine am_nc (p := am_pm xs) (k := 138) ⟨am_tb_ok (T := tables_1) (K := am_K) (M := md_138) am_tall am_kall de_138 lb_138, fun _ => mc_138⟩ ?_
    refine am_nc (p := am_pm xs) (k := 139) ⟨am_tb_ok (T := tables_1) (K := am_K) (M := md_139) am_tall am_kall de_139 lb_139, fun _ => mc_139⟩ ?_
    refine am_nc (p := am_pm xs) (k := 140) ⟨am_tb_ok (T := tables_1) (K := am_K) (M := md_140) am_tall am_kall de_140 lb_140, fun _ => mc_140⟩ ?_
    refine am_nc (p := am_pm xs) (k := 141) ⟨am_tb_ok (T := tables_1) (K := am_K) (M := md_141) am_tall am_kall de_141 lb_141, fun _ => mc_141⟩ ?_
    refine am_nc (p := am_pm xs) (k := 142) ⟨am_tb_ok (T := tables_1) (K := am_K) (M := md_142) am_tall am_kall de_142 lb_142, fun _ => mc_142⟩ ?_
    refine am_nc (p := am_pm xs) (k := 143) ⟨am_tb_ok (T := tables_1) (K := am_K) (M := md_143) am_tall am_kall de_143 lb_143, fun _ => mc_143⟩ ?_
    refine am_nc (p := am_pm xs) (k := 144) ⟨am_tb_ok (T := tables_1) (K := am_K) (M := md_144) am_tall am_kall de_144 lb_144, fun _ => mc_144⟩ ?_
    refine am_nc (p := am_pm xs) (k := 145) ⟨am_tb_ok (T := tables_1) (K := am_K) (M := md_145) am_tall am_kall de_145 lb_145, fun _ => mc_145⟩ ?_
    refine am_nc (p := am_pm xs) (k := 146) ⟨am_tb_ok (T := tables_1) (K := am_K) (M := md_146) am_tall am_kall de_146 lb_146, fun _ => mc_146⟩ ?_
    refine am_nc (p := am_pm xs) (k := 147) ⟨am_tb_ok (T := tables_1) (K := am_K) (M := md_147) am_tall am_kall de_147 lb_147, fun _ => mc_147⟩ ?_
    refine am_nc (p := am_pm xs) (k := 148) ⟨am_tb_ok (T := tables_1) (K := am_K) (M := md_148) am_tall am_kall de_148 lb_148, fun _ => mc_148⟩ ?_
    refine am_nc (p := am_pm xs) (k := 149) ⟨am_tb_ok (T := tables_1) (K := am_K) (M := md_149) am_tall am_kall de_149 lb_149, fun _ => mc_149⟩ ?_
    refine am_nc (p := am_pm xs) (k := 150) ⟨am_tb_ok (T := tables_1) (K := am_K) (M := md_150) am_tall am_kall de_150 lb_150, fun _ => mc_150⟩ ?_
    refine am_nc (p := am_pm xs) (k := 151) ⟨am_tb_ok (T := tables_1) (K := am_K) (M := md_151) am_tall am_kall de_151 lb_151, fun _ => mc_151⟩ ?_
    refine am_nc (p := am_pm xs) (k := 152) ⟨am_tb_ok (T := tables_1) (K := am_K) (M := md_152) am_tall am_kall de_152 lb_152, fun _ => mc_152⟩ ?_
    refine am_nc (p := am_pm xs) (k := 153) ⟨am_tb_ok (T := tables_1) (K := am_K) (M := md_153) am_tall am_kall de_153 lb_153, fun _ => mc_153⟩ ?_
    refine am_nc (p := am_pm xs) (k := 154) ⟨am_tb_ok (T := tables_1) (K := am_K) (M := md_154) am_tall am_kall de_154 lb_154, fun _ => mc_154⟩ ?_
    refine am_nc (p := am_pm xs) (k := 155) ⟨am_tb_ok (T := tables_1) (K := am_K) (M := md_155) am_tall am_kall de_155 lb_155, fun _ => mc_155⟩ ?_
    refine am_nc (p := am_pm xs) (k := 156) ⟨am_tb_ok (T := tables_1) (K := am_K) (M := md_156) am_tall am_kall de_156 lb_156, fun _ => mc_156⟩ ?_
    refine am_nc (p := am_pm xs) (k := 157) ⟨am_tb_ok (T := tables_1) (K := am_K) (M := md_157) am_tall am_kall de_157 lb_157, fun _ => mc_157⟩ ?_
    refine am_nc (p := am_pm xs) (k := 158) ⟨am_tb_ok (T := tables_1) (K := am_K) (M := md_158) am_tall am_kall de_158 lb_158, fun _ => mc_158⟩ ?_
    refine am_nc (p := am_pm xs) (k := 159) ⟨am_tb_ok (T := tables_1) (K := am_K) (M := md_159) am_tall am_kall de_159 lb_159, fun _ => mc_159⟩ ?_
    refine am_nc (p := am_pm xs) (k := 160) ⟨am_tb_ok (T := tables_1) (K := am_K) (M := md_160) am_tall am_kall de_160 lb_160, fun _ => mc_160⟩ ?_
    refine am_nc (p := am_pm xs) (k := 161) ⟨am_tb_ok (T := tables_1) (K := am_K) (M := md_161) am_tall am_kall de_161 lb_161, fun _ => mc_161⟩ ?_
    refine am_nc (p := am_pm xs) (k := 162) ⟨am_tb_ok (T := tables_1) (K := am_K) (M := md_162) am_tall am_kall de_162 lb_162, fun _ => mc_162⟩ ?_
    refine am_nc (p := am_pm xs) (k := 163) ⟨am_tb_ok (T := tables_1) (K := am_K) (M := md_163) am_tall am_kall de_163 lb_163, fun _ => mc_163⟩ ?_
    refine am_nc (p := am_pm xs) (k := 164) ⟨am_tb_ok (T := tables_1) (K := am_K) (M := md_164) am_tall am_kall de_164 lb_164, fun _ => mc_164⟩ ?_
    refine am_nc (p := am_pm xs) (k := 165) ⟨am_tb_ok (T := tables_1) (K := am_K) (M := md_165) am_tall am_kall de_165 lb_165, fun _ => mc_165⟩ ?_
    refine am_nc (p := am_pm xs) (k := 166) ⟨am_tb_ok (T := tables_1) (K := am_K) (M := md_166) am_tall am_kall de_166 lb_166, fun _ => mc_166⟩ ?_
    refine am_nc (p := am_pm xs) (k := 167) ⟨am_tb_ok (T := tables_1) (K := am_K) (M := md_167) am_tall am_kall de_167 lb_167, fun _ => mc_167⟩ ?_
    refine am_nc (p := am_pm xs) (k := 168) ⟨am_tb_ok (T := tables_1) (K := am_K) (M := md_168) am_tall am_kall de_168 lb_168, fun _ => mc_168⟩ ?_
    refine am_nc (p := am_pm xs) (k := 169) ⟨am_tb_ok (T := tables_1) (K := am_K) (M := md_169) am_tall am_kall de_169 lb_169, fun _ => mc_169⟩ ?_
    refine am_nc (p := am_pm xs) (k := 170) ⟨am_tb_ok (T := tables_1) (K := am_K) (M := md_170) am_tall am_kall de_170 lb_170, fun _ => mc_170⟩ ?_
    refine am_nc (p := am_pm xs) (k := 171) ⟨am_tb_ok (T := tables_1) (K := am_K) (M := md_171) am_tall am_kall de_171 lb_171, fun _ => mc_171⟩ ?_
    refine am_nc (p := am_pm xs) (k := 172) ⟨am_tb_ok (T := tables_1) (K := am_K) (M := md_172) am_tall am_kall de_172 lb_172, fun _ => mc_172⟩ ?_
    refine am_nc (p := am_pm xs) (k := 173) ⟨am_tb_ok (T := tables_1) (K := am_K) (M := md_173) am_tall am_kall de_173 lb_173, fun _ => mc_173⟩ ?_
    refine am_nc (p := am_pm xs) (k := 174) ⟨am_tb_ok (T := tables_1) (K := am_K) (M := md_174) am_tall am_kall de_174 lb_174, fun _ => mc_174⟩ ?_
    refine am_nc (p := am_pm xs) (k := 175) ⟨am_tb_ok (T := tables_1) (K := am_K) (M := md_175) am_tall am_kall de_175 lb_175, fun _ => mc_175⟩ ?_
    refine am_nc (p := am_pm xs) (k := 176) ⟨am_tb_ok (T := tables_1) (K := am_K) (M := md_176) am_tall am_kall de_176 lb_176, fun _ => mc_176⟩ ?_
    refine am_nc (p := am_pm xs) (k := 177) ⟨am_tb_ok (T := tables_1) (K := am_K) (M := md_177) am_tall am_kall de_177 lb_177, fun _ => mc_177⟩ ?_
    refine am_nc (p := am_pm xs) (k := 178) ⟨am_tb_ok (T := tables_1) (K := am_K) (M := md_178) am_tall am_kall de_178 lb_178, fun _ => mc_178⟩ ?_
    refine am_nc (p := am_pm xs) (k := 179) ⟨am_tb_ok (T := tables_1) (K := am_K) (M := md_179) am_tall am_kall de_179 lb_179, fun _ => mc_179⟩ ?_
    refine am_nc (p := am_pm xs) (k := 180) ⟨am_tb_ok (T := tables_1) (K := am_K) (M := md_180) am_tall am_kall de_180 lb_180, fun _ => mc_180⟩ ?_
    refine am_nc (p := am_pm xs) (k := 181) ⟨am_tb_ok (T := tables_1) (K := am_K) (M := md_181) am_tall am_kall de_181 lb_181, fun _ => mc_181⟩ ?_
    refine am_nc (p := am_pm xs) (k := 182) ⟨am_tb_ok (T := tables_1) (K := am_K) (M := md_182) am_tall am_kall de_182 lb_182, fun _ => mc_182⟩ ?_
    refine am_nc (p := am_pm xs) (k := 183) ⟨am_tb_ok (T := tables_1) (K := am_K) (M := md_183) am_tall am_kall de_183 lb_183, fun _ => mc_183⟩ ?_
    refine am_nc (p := am_pm xs) (k := 184) ⟨am_tb_ok (T := tables_1) (K := am_K) (M := md_184) am_tall am_kall de_184 lb_184, fun _ => mc_184⟩ ?_
    refine am_nc (p := am_pm xs) (k := 185) ⟨am_tb_ok (T := tables_1) (K := am_K) (M := md_185) am_tall am_kall de_185 lb_185, fun _ => mc_185⟩ ?_
    refine am_nc (p := am_pm xs) (k := 186) ⟨am_tb_ok (T := tables_1) (K := am_K) (M := md_186) am_tall am_kall de_186 lb_186, fun _ => mc_186⟩ ?_
    refine am_nc (p := am_pm xs) (k := 187) ⟨am_tb_ok (T := tables_1) (K := am_K) (M := md_187) am_tall am_kall de_187 lb_187, fun _ => mc_187⟩ ?_
    refine am_nc (p := am_pm xs) (k := 188) ⟨am_tb_ok (T := tables_1) (K := am_K) (M := md_188) am_tall am_kall de_188 lb_188, fun _ => mc_188⟩ ?_
    refine am_nc (p := am_pm xs) (k := 189) ⟨am_tb_ok (T := tables_1) (K := am_K) (M := md_189) am_tall am_kall de_189 lb_189, fun _ => mc_189⟩ ?_
    refine am_nc (p := am_pm xs) (k := 190) ⟨am_tb_ok (T := tables_1) (K := am_K) (M := md_190) am_tall am_kall de_190 lb_190, fun _ => mc_190⟩ ?_
    refine am_nc (p := am_pm xs) (k := 191) ⟨am_tb_ok (T := tables_1) (K := am_K) (M := md_191) am_tall am_kall de_191 lb_191, fun _ => mc_191⟩ ?_
    refine am_nc (p := am_pm xs) (k := 192) ⟨am_tb_ok (T := tables_1) (K := am_K) (M := md_192) am_tall am_kall de_192 lb_192, fun _ => mc_192⟩ ?_
    refine am_nc (p := am_pm xs) (k := 193) ⟨am_tb_ok (T := tables_1) (K := am_K) (M := md_193) am_tall am_kall de_193 lb_193, fun _ => mc_193⟩ ?_
    refine am_nc (p := am_pm xs) (k := 194) ⟨am_tb_ok (T := tables_1) (K := am_K) (M := md_194) am_tall am_kall de_194 lb_194, fun _ => mc_194⟩ ?_
    refine am_nc (p := am_pm xs) (k := 195) ⟨am_tb_ok (T := tables_1) (K := am_K) (M := md_195) am_tall am_kall de_195 lb_195, fun _ => mc_195⟩ ?_
    refine am_nc (p := am_pm xs) (k := 196) ⟨am_tb_ok (T := tables_1) (K := am_K) (M := md_196) am_tall am_kall de_196 lb_196, fun _ => mc_196⟩ ?_
    refine am_nc (p := am_pm xs) (k := 197) ⟨am_tb_ok (T := tables_1) (K := am_K) (M := md_197) am_tall am_kall de_197 lb_197, fun _ => mc_197⟩ ?_
    refine am_nc (p := am_pm xs) (k := 198) ⟨am_tb_ok (T := tables_1) (K := am_K) (M := md_198) am_tall am_kall de_198 lb_198, fun _ => mc_198⟩ ?_
    refine am_nc (p := am_pm xs) (k := 199) ⟨am_tb_ok (T := tables_1) (K := am_K) (M := md_199) am_tall am_kall de_199 lb_199, fun _ => mc_199⟩ ?_
    refine am_nc (p := am_pm xs) (k := 200) ⟨am_tb_ok (T := tables_1) (K := am_K) (M := md_200) am_tall am_kall de_200 lb_200, fun _ => mc_200⟩ ?_
    refine am_nc (p := am_pm xs) (k := 201) ⟨am_tb_ok (T := tables_1) (K := am_K) (M := md_201) am_tall am_kall de_201 lb_201, fun _ => mc_201⟩ ?_
    exact am_nn
  intro mi M h
  have h2 := H mi M h
  rw [Nat.zero_add] at h2
  exact h2
set_option maxRecDepth 100000 in
theorem am_call (xs : Option (List Int32)) : ∀ (ci : Nat) (q : vw_C), am_cl[ci]? = some q → am_co (am_CX xs) am_GG ci q := by
  have H : ∀ (i : Nat) (q : vw_C), am_cl[i]? = some q → am_pc1 xs (0 + i) q := by
    unfold am_cl
    refine am_nc (p := am_pc1 xs) (k := 0) (cz_0 xs) ?_
    refine am_nc (p := am_pc1 xs) (k := 1) (cz_1 xs) ?_
    refine am_nc (p := am_pc1 xs) (k := 2) (cz_2 xs) ?_
    refine am_nc (p := am_pc1 xs) (k := 3) (cz_3 xs) ?_
    refine am_nc (p := am_pc1 xs) (k := 4) (cz_4 xs) ?_
    refine am_nc (p := am_pc1 xs) (k := 5) (cz_5 xs) ?_
    refine am_nc (p := am_pc1 xs) (k := 6) (cz_6 xs) ?_
    refine am_nc (p := am_pc1 xs) (k := 7) (cz_7 xs) ?_
    refine am_nc (p := am_pc1 xs) (k := 8) (cz_8 xs) ?_
    refine am_nc (p := am_pc1 xs) (k := 9) (cz_9 xs) ?_
    exact am_nn
  intro ci q h
  have h2 := H ci q h
  rw [Nat.zero_add] at h2
  exact h2
theorem am_okk (xs : Option (List Int32)) : am_OK (am_CX xs) am_GG := ⟨am_gog, am_call xs, am_mall xs⟩
end
section
/-! Runs that a program decides. -/
def am_qe (a b : am_E) : Bool := match a, b with
  | .inl x, .inl y => decide (x.1 = y.1) && decide (x.2 = y.2)
  | .inr x, .inr y => decide (x.1 = y.1) && decide (x.2 = y.2)
  | _, _ => false
theorem am_qe_eq {a b : am_E} (h : am_qe a b = true) : a = b := by
  cases a with
  | inl x =>
    cases b with
    | inl y =>
      have h : (decide (x.1 = y.1) && decide (x.2 = y.2)) = true := h
      rw [Bool.and_eq_true, decide_eq_true_eq, decide_eq_true_eq] at h
      exact congrArg Sum.inl (Prod.ext h.1 h.2)
    | inr y => cases h
  | inr x =>
    cases b with
    | inl y => cases h
    | inr y =>
      have h : (decide (x.1 = y.1) && decide (x.2 = y.2)) = true := h
      rw [Bool.and_eq_true, decide_eq_true_eq, decide_eq_true_eq] at h
      exact congrArg Sum.inr (Prod.ext h.1 h.2)
def am_qh : List am_E → List am_E → Bool
  | [], [] => true
  | a :: r, b :: s => am_qe a b && am_qh r s
  | _, _ => false
theorem am_qh_eq : ∀ {a b : List am_E}, am_qh a b = true → a = b
  | [], [], _ => rfl
  | a :: r, b :: s, h => by
    have h : (am_qe a b && am_qh r s) = true := h
    rw [Bool.and_eq_true] at h
    rw [am_qe_eq h.1, am_qh_eq h.2]
  | [], _ :: _, h => by cases h
  | _ :: _, [], h => by cases h
def am_qo (a : Option (Option Value × List am_E × Nat × Nat)) (r : Option Value) (h : List am_E) (c s : Nat) : Bool := match a with
  | some z => (decide (z.1 = r) && am_qh z.2.1 h) && (decide (z.2.2.1 = c) && decide (z.2.2.2 = s))
  | none => false
theorem am_qo_eq {a : Option (Option Value × List am_E × Nat × Nat)} {r : Option Value} {h : List am_E} {c s : Nat} (e : am_qo a r h c s = true) : a = some (r, h, c, s) := by
  cases a with
  | none => cases e
  | some z =>
    obtain ⟨z1, z2, z3, z4⟩ := z
    have e : ((decide (z1 = r) && am_qh z2 h) && (decide (z3 = c) && decide (z4 = s))) = true := e
    simp only [Bool.and_eq_true, decide_eq_true_eq] at e
    rw [e.1.1, am_qh_eq e.1.2, e.2.1, e.2.2]
theorem am_wm {C : am_C} {d mi pc : Nat} {lv lw : am_V} {st : List Value} {h : List am_E} {Q : Option Value → List am_E → Prop} (hg : am_W C d mi pc lv st h Q) (hs : am_sub lw lv) : am_W C d mi pc lw st h Q := am_wl hs hg
end
section
/-! Arrays read and written at a number's place. -/
theorem am_gd {l : List Int32} {i : Nat} (hi : i < l.length) (hL : l.length < 2 ^ 31) : l[(nI i).toNatClampNeg]? = some (l.getD i 0) := by
  rw [nI_clamp (by omega), List.getD_eq_getElem?_getD, List.getElem?_eq_getElem hi]
  rfl
section AMX
variable {C : am_C} {d mi pc : Nat} {lv : am_V} {st : List Value} {h h1 : List am_E} {Q : Option Value → List am_E → Prop} {len : Nat} {x : am_X} {idx v : Int32} {a i : Nat} {l : List Int32}
theorem am_wliE (hat : am_at C mi pc = some (.iaload, len, x)) (ha : am_ar h a = some (false, l)) (hix : idx = nI i) (hi : i < l.length) (hL : l.length < 2 ^ 31) (hg : am_W C d mi (pc + 1) lv (.int (l.getD i 0) :: st) h Q) : am_W C d mi pc lv (.int idx :: .ref a :: st) h Q := by
  subst hix
  exact am_wli hat ha (nI_pos (by omega)) (am_gd hi hL) hg
theorem am_wlcE (hat : am_at C mi pc = some (.caload, len, x)) (ha : am_ar h a = some (true, l)) (hix : idx = nI i) (hi : i < l.length) (hL : l.length < 2 ^ 31) (hg : am_W C d mi (pc + 1) lv (.int (l.getD i 0) :: st) h Q) : am_W C d mi pc lv (.int idx :: .ref a :: st) h Q := by
  subst hix
  exact am_wlc hat ha (nI_pos (by omega)) (am_gd hi hL) hg
theorem am_wlsE (hat : am_at C mi pc = some (.iaload, len, x)) (ha : C.2.2.2.1 = some l) (hix : idx = nI i) (hi : i < l.length) (hL : l.length < 2 ^ 31) (hg : am_W C d mi (pc + 1) lv (.int (l.getD i 0) :: st) h Q) : am_W C d mi pc lv (.int idx :: .ref 0 :: st) h Q := by
  subst hix
  exact am_wls hat ha (nI_pos (by omega)) (am_gd hi hL) hg
theorem am_wsiE (hat : am_at C mi pc = some (.iastore, len, x)) (ha : am_ar h a = some (false, l)) (hix : idx = nI i) (hi : i < l.length) (hL : l.length < 2 ^ 31) (hh : h.set (a - 2) (.inl (false, l.set i v)) = h1) (hg : am_W C d mi (pc + 1) lv st h1 Q) : am_W C d mi pc lv (.int v :: .int idx :: .ref a :: st) h Q := by
  subst hix
  have e := nI_clamp (n := i) (by omega)
  exact am_wsi hat ha (nI_pos (by omega)) (by rw [e]; exact hi) (by rw [e]; exact hh) hg
theorem am_wscE (hat : am_at C mi pc = some (.castore, len, x)) (ha : am_ar h a = some (true, l)) (hix : idx = nI i) (hi : i < l.length) (hL : l.length < 2 ^ 31) (hh : h.set (a - 2) (.inl (true, l.set i (vp_nar .char v))) = h1) (hg : am_W C d mi (pc + 1) lv st h1 Q) : am_W C d mi pc lv (.int v :: .int idx :: .ref a :: st) h Q := by
  subst hix
  have e := nI_clamp (n := i) (by omega)
  exact am_wsc hat ha (nI_pos (by omega)) (by rw [e]; exact hi) (by rw [e]; exact hh) hg
theorem am_wal {l : List Int32} {v : Int32} (hat : am_at C mi pc = some (.arraylength, len, x)) (ha : C.2.2.2.1 = some l) (hv : Int32.ofNat l.length = v) (hg : am_W C d mi (pc + 1) lv (.int v :: st) h Q) : am_W C d mi pc lv (.ref 0 :: st) h Q := by
  refine am_w0 (z := (pc + 1, lv, .int v :: st, h)) hat rfl ?_ hg
  show am_len C.2.2.2.1 C.2.2.2.2 pc lv (.ref 0 :: st) h = _
  simp [am_len, ha, hv]
end AMX
/-- numbers on top of the stack by another name -/
theorem am_wt {C : am_C} {d mi pc : Nat} {lv : am_V} {st : List Value} {h : List am_E} {Q : Option Value → List am_E → Prop} {x y : Int32} (e : x = y) (hg : am_W C d mi pc lv (.int y :: st) h Q) : am_W C d mi pc lv (.int x :: st) h Q := e ▸ hg
theorem am_cp_len {f g : List Int32} {sp dp n : Nat} (h1 : sp + n ≤ f.length) (h2 : dp + n ≤ g.length) : (am_cp f g sp dp n).length = g.length := (am_cp_fun f g sp dp n h1 h2).1
theorem am_cp_get {f g : List Int32} {sp dp n : Nat} (h1 : sp + n ≤ f.length) (h2 : dp + n ≤ g.length) (j : Nat) : (am_cp f g sp dp n)[j]? = if dp ≤ j ∧ j < dp + n then f[sp + (j - dp)]? else g[j]? := by
  have l1 : (g.take dp).length = dp := by rw [List.length_take]; omega
  have l2 : ((f.drop sp).take n).length = n := by rw [List.length_take, List.length_drop]; omega
  unfold am_cp
  by_cases hj : j < dp
  · rw [List.getElem?_append_left (by rw [l1]; exact hj), List.getElem?_take_of_lt hj, if_neg (by omega)]
  · rw [List.getElem?_append_right (by rw [l1]; omega), l1]
    by_cases hk : j < dp + n
    · rw [List.getElem?_append_left (by rw [l2]; omega), List.getElem?_take_of_lt (by omega), List.getElem?_drop, if_pos (by omega)]
    · rw [List.getElem?_append_right (by rw [l2]; omega), l2, List.getElem?_drop, if_neg (by omega)]
      have e : dp + n + (j - dp - n) = j := by omega
      rw [e]
/-- System.arraycopy of chars -/
theorem am_acpG {d pc : Nat} {lv : am_V} {r : List Value} {h h1 : List am_E} {n dp sp : Int32} {j k a1 a2 a3 : Nat} {lo lq : List Int32} (hj : h[j]? = some (.inl (true, lo))) (hk : h[k]? = some (.inl (true, lq))) (hd : 1 ≤ d) (h8 : am_ca r ≤ 8) (e1 : sp = nI a1) (e2 : dp = nI a2) (e3 : n = nI a3) (b0 : a1 < 2 ^ 31 ∧ a2 < 2 ^ 31 ∧ a3 < 2 ^ 31) (b1 : a1 + a3 ≤ lq.length) (b2 : a2 + a3 ≤ lo.length) (hf : ∀ c ∈ lq, fits .char (.int c) = true) (hh : h.set j (.inl (true, am_cp lq lo a1 a2 a3)) = h1) : am_acp d pc lv (.int n :: .int dp :: .ref (j + 2) :: .int sp :: .ref (k + 2) :: r) h = some (pc + 3, lv, r, h1) := by
  subst e1
  subst e2
  subst e3
  have g1 : am_ar h (j + 2) = some (true, lo) := by simp [am_ar, hj]
  have g2 : am_ar h (k + 2) = some (true, lq) := by simp [am_ar, hk]
  have c1 := nI_clamp b0.1
  have c2 := nI_clamp b0.2.1
  have c3 := nI_clamp b0.2.2
  have hall : ((lq.drop a1).take a3).all (fun z => fits .char (.int z)) = true := List.all_eq_true.mpr (fun z hz => hf z (List.mem_of_mem_drop (List.mem_of_mem_take hz)))
  have hc : am_acc d r (true, lo) (true, lq) (nI a1) (nI a2) (nI a3) = true := by
    unfold am_acc
    rw [c1, c2, c3]
    simp only [Bool.and_eq_true, decide_eq_true_eq, Bool.not_eq_true', decide_eq_false_iff_not]
    exact ⟨⟨trivial, trivial⟩, ⟨hd, h8⟩, ⟨nI_pos b0.1, nI_pos b0.2.1, nI_pos b0.2.2⟩, ⟨b1, b2⟩, hall⟩
  unfold am_acp
  simp only [g1, g2]
  show (bif am_acc d r (true, lo) (true, lq) (nI a1) (nI a2) (nI a3) then some (pc + 3, lv, r, h.set (j + 2 - 2) (.inl (true, am_cp lq lo (nI a1).toNatClampNeg (nI a2).toNatClampNeg (nI a3).toNatClampNeg))) else none) = _
  rw [hc, c1, c2, c3, cond_true]
  show some (pc + 3, lv, r, h.set j (.inl (true, am_cp lq lo a1 a2 a3))) = _
  rw [hh]
/-- k steps that leave the heap as it is -/
theorem am_wh {C : am_C} {d mi pc : Nat} {lv : am_V} {st : List Value} {h : List am_E} {Q : Option Value → List am_E → Prop} (k : Nat) {pc1 : Nat} {lv1 : am_V} {st1 : List Value} (hk : am_ks C d mi k (pc, lv, st, h) = some (pc1, lv1, st1, h)) (hg : am_W C d mi pc1 lv1 st1 h Q) : am_W C d mi pc lv st h Q := am_wn k hk hg
end
section
/-! The eight characters of a long. -/
def ed_c (e : Int64) (k : Int32) : Int32 := (Int64.toInt32 (((Int64.toUInt64 e) >>> ((Int32.toInt64 k).toUInt64 &&& Int64.toUInt64 63)).toInt64)) &&& 255
def ed_ok (c : Int32) : Bool := am_if .eq c 10 || (!am_if .lt c 32 && !am_if .gt c 126)
def ed_b (e : Int64) (i : Nat) : Int32 := ed_c e (nI (8 * i))
def ed_al (e : Int64) : Nat → Bool
  | 0 => true
  | i + 1 => (am_if .eq (ed_b e i) 0 || ed_ok (ed_b e i)) && ed_al e i
def ed_n (e : Int64) : Nat → Nat
  | 0 => 0
  | i + 1 => (bif am_if .eq (ed_b e i) 0 then 0 else 1) + ed_n e i
theorem ed_n_le (e : Int64) : ∀ m, ed_n e m ≤ m := by
  intro m
  induction m with
  | zero => exact Nat.le_refl 0
  | succ m ih =>
    show (bif am_if .eq (ed_b e m) 0 then 0 else 1) + ed_n e m ≤ m + 1
    cases am_if .eq (ed_b e m) 0
    · show 1 + ed_n e m ≤ m + 1
      omega
    · show 0 + ed_n e m ≤ m + 1
      omega
theorem ed_sh : ∀ m, m < 8 → (56 : Int32) - 8 * nI (8 - (m + 1)) = nI (8 * m) := by decide +kernel
theorem ed_ge : ∀ m, m < 8 → am_if .ge (nI (8 - (m + 1))) 8 = false := by decide +kernel
theorem ed_up : ∀ m, m < 8 → nI (8 - (m + 1)) + 1 = nI (8 - m) := by decide +kernel
theorem ed_ne (b : Bool) : am_if .ne (bif b then 1 else 0) 0 = b := by cases b <;> decide +kernel
theorem ed_eq (b : Bool) : am_if .eq (bif b then 1 else 0) 0 = !b := by cases b <;> decide +kernel
set_option maxRecDepth 100000 in
set_option maxHeartbeats 4000000 in
theorem ec_byte (xs : Option (List Int32)) (d : Nat) (h : List am_E) (Q : Option Value → List am_E → Prop) (e : Int64) (k : Int32) (hQ : Q (some (.int (ed_c e (56 - 8 * k)))) h) : am_W (am_CX xs) d 19 0 [(0, .long e), (2, .int k)] [] h Q := by
  refine am_wn 10 (pc1 := 14) (lv1 := [(0, .long e), (2, .int k)]) (st1 := [.int ((Int64.toInt32 (((Int64.toUInt64 e) >>> ((Int32.toInt64 (56 - (8 * k))).toUInt64 &&& Int64.toUInt64 63)).toInt64)) &&& 255)]) (h1 := h) rfl ?_
  refine am_wr rfl rfl rfl ?_
  exact hQ
set_option maxRecDepth 100000 in
set_option maxHeartbeats 4000000 in
theorem ec_isx (xs : Option (List Int32)) (d : Nat) (h : List am_E) (Q : Option Value → List am_E → Prop) (c : Int32) (hQ : Q (some (.int (bif ed_ok c then 1 else 0))) h) : am_W (am_CX xs) d 81 0 [(0, .int c)] [] h Q := by
  refine am_wn 2 (pc1 := 3) (lv1 := [(0, .int c)]) (st1 := [.int 10, .int c]) (h1 := h) rfl ?_
  cases hb1 : am_if .eq c 10 with
  | true =>
    refine am_wb2 rfl true hb1 rfl ?_
    refine am_wn 2 (pc1 := 23) (lv1 := [(0, .int c)]) (st1 := [.int 1]) (h1 := h) rfl ?_
    refine am_wr rfl rfl rfl ?_
    rw [show ed_ok c = true by simp [ed_ok, hb1]] at hQ
    exact hQ
  | false =>
    refine am_wb2 rfl false hb1 rfl ?_
    refine am_wn 2 (pc1 := 9) (lv1 := [(0, .int c)]) (st1 := [.int 32, .int c]) (h1 := h) rfl ?_
    cases hb2 : am_if .lt c 32 with
    | true =>
      refine am_wb2 rfl true hb2 rfl ?_
      refine am_wn 1 (pc1 := 23) (lv1 := [(0, .int c)]) (st1 := [.int 0]) (h1 := h) rfl ?_
      refine am_wr rfl rfl rfl ?_
      rw [show ed_ok c = false by simp [ed_ok, hb1, hb2]] at hQ
      exact hQ
    | false =>
      refine am_wb2 rfl false hb2 rfl ?_
      refine am_wn 2 (pc1 := 15) (lv1 := [(0, .int c)]) (st1 := [.int 126, .int c]) (h1 := h) rfl ?_
      cases hb3 : am_if .gt c 126 with
      | true =>
        refine am_wb2 rfl true hb3 rfl ?_
        refine am_wn 1 (pc1 := 23) (lv1 := [(0, .int c)]) (st1 := [.int 0]) (h1 := h) rfl ?_
        refine am_wr rfl rfl rfl ?_
        rw [show ed_ok c = false by simp [ed_ok, hb1, hb2, hb3]] at hQ
        exact hQ
      | false =>
        refine am_wb2 rfl false hb3 rfl ?_
        refine am_wn 2 (pc1 := 23) (lv1 := [(0, .int c)]) (st1 := [.int 1]) (h1 := h) rfl ?_
        refine am_wr rfl rfl rfl ?_
        rw [show ed_ok c = true by simp [ed_ok, hb1, hb2, hb3]] at hQ
        exact hQ
set_option maxRecDepth 100000 in
set_option maxHeartbeats 4000000 in
theorem ec_ism (xs : Option (List Int32)) (d : Nat) (h : List am_E) (Q : Option Value → List am_E → Prop) (c : Int32) (hQ : Q (some (.int (bif ed_ok c then 1 else 0))) h) : am_W (am_CX xs) d 131 0 [(0, .int c)] [] h Q := by
  refine am_wn 2 (pc1 := 3) (lv1 := [(0, .int c)]) (st1 := [.int 10, .int c]) (h1 := h) rfl ?_
  cases hb1 : am_if .eq c 10 with
  | true =>
    refine am_wb2 rfl true hb1 rfl ?_
    refine am_wn 2 (pc1 := 23) (lv1 := [(0, .int c)]) (st1 := [.int 1]) (h1 := h) rfl ?_
    refine am_wr rfl rfl rfl ?_
    rw [show ed_ok c = true by simp [ed_ok, hb1]] at hQ
    exact hQ
  | false =>
    refine am_wb2 rfl false hb1 rfl ?_
    refine am_wn 2 (pc1 := 9) (lv1 := [(0, .int c)]) (st1 := [.int 32, .int c]) (h1 := h) rfl ?_
    cases hb2 : am_if .lt c 32 with
    | true =>
      refine am_wb2 rfl true hb2 rfl ?_
      refine am_wn 1 (pc1 := 23) (lv1 := [(0, .int c)]) (st1 := [.int 0]) (h1 := h) rfl ?_
      refine am_wr rfl rfl rfl ?_
      rw [show ed_ok c = false by simp [ed_ok, hb1, hb2]] at hQ
      exact hQ
    | false =>
      refine am_wb2 rfl false hb2 rfl ?_
      refine am_wn 2 (pc1 := 15) (lv1 := [(0, .int c)]) (st1 := [.int 126, .int c]) (h1 := h) rfl ?_
      cases hb3 : am_if .gt c 126 with
      | true =>
        refine am_wb2 rfl true hb3 rfl ?_
        refine am_wn 1 (pc1 := 23) (lv1 := [(0, .int c)]) (st1 := [.int 0]) (h1 := h) rfl ?_
        refine am_wr rfl rfl rfl ?_
        rw [show ed_ok c = false by simp [ed_ok, hb1, hb2, hb3]] at hQ
        exact hQ
      | false =>
        refine am_wb2 rfl false hb3 rfl ?_
        refine am_wn 2 (pc1 := 23) (lv1 := [(0, .int c)]) (st1 := [.int 1]) (h1 := h) rfl ?_
        refine am_wr rfl rfl rfl ?_
        rw [show ed_ok c = true by simp [ed_ok, hb1, hb2, hb3]] at hQ
        exact hQ
set_option maxRecDepth 100000 in
set_option maxHeartbeats 4000000 in
theorem ec_arl (xs : Option (List Int32)) (d : Nat) (h : List am_E) (Q : Option Value → List am_E → Prop) (e : Int64) : ∀ m, m ≤ 8 → Q (some (.int (bif ed_al e m then 1 else 0))) h → am_W (am_CX xs) (d + 1) 21 2 [(2, .int (nI (8 - m))), (0, .long e)] [] h Q := by
  intro m
  induction m with
  | zero =>
    intro _ hQ
    refine am_wn 4 (pc1 := 34) (lv1 := [(2, .int (nI 8)), (0, .long e)]) (st1 := [.int 1]) (h1 := h) rfl ?_
    refine am_wr rfl rfl rfl ?_
    exact hQ
  | succ m ih =>
    intro hm hQ
    have hm : m < 8 := hm
    refine am_wn 2 (pc1 := 5) (lv1 := [(2, .int (nI (8 - (m + 1)))), (0, .long e)]) (st1 := [.int 8, .int (nI (8 - (m + 1)))]) (h1 := h) rfl ?_
    refine am_wb2 rfl false (ed_ge m hm) rfl ?_
    refine am_wn 2 (pc1 := 10) (lv1 := [(2, .int (nI (8 - (m + 1)))), (0, .long e)]) (st1 := [.int (nI (8 - (m + 1))), .long e]) (h1 := h) rfl ?_
    refine am_wc rfl rfl rfl ?_
    refine ec_byte _ _ _ _ _ _ ?_
    rw [ed_sh m hm]
    show am_W _ _ 21 13 [(2, .int (nI (8 - (m + 1)))), (0, .long e)] [.int (ed_b e m)] h _
    refine am_wn 2 (pc1 := 15) (lv1 := [(3, .int (ed_b e m)), (2, .int (nI (8 - (m + 1)))), (0, .long e)]) (st1 := [.int (ed_b e m)]) (h1 := h) rfl ?_
    cases hb1 : am_if .eq (ed_b e m) 0 with
    | true =>
      refine am_wb1 rfl true hb1 rfl ?_
      refine am_wn 2 (pc1 := 2) (lv1 := [(2, .int ((nI (8 - (m + 1))) + 1)), (3, .int (ed_b e m)), (0, .long e)]) (st1 := []) (h1 := h) rfl ?_
      rw [show ed_al e (m + 1) = ed_al e m by simp [ed_al, hb1]] at hQ
      rw [ed_up m hm]
      exact am_wm (ih (Nat.le_of_lt hm) hQ) ⟨rfl, rfl, trivial⟩
    | false =>
      refine am_wb1 rfl false hb1 rfl ?_
      refine am_wn 1 (pc1 := 19) (lv1 := [(3, .int (ed_b e m)), (2, .int (nI (8 - (m + 1)))), (0, .long e)]) (st1 := [.int (ed_b e m)]) (h1 := h) rfl ?_
      refine am_wc rfl rfl rfl ?_
      refine ec_isx _ _ _ _ _ ?_
      show am_W _ _ 21 22 [(3, .int (ed_b e m)), (2, .int (nI (8 - (m + 1)))), (0, .long e)] [.int (bif ed_ok (ed_b e m) then 1 else 0)] h _
      cases hb2 : am_if .ne (bif ed_ok (ed_b e m) then 1 else 0) 0 with
      | true =>
        refine am_wb1 rfl true hb2 rfl ?_
        refine am_wn 2 (pc1 := 2) (lv1 := [(2, .int ((nI (8 - (m + 1))) + 1)), (3, .int (ed_b e m)), (0, .long e)]) (st1 := []) (h1 := h) rfl ?_
        rw [ed_ne] at hb2
        rw [show ed_al e (m + 1) = ed_al e m by simp [ed_al, hb1, hb2]] at hQ
        rw [ed_up m hm]
        exact am_wm (ih (Nat.le_of_lt hm) hQ) ⟨rfl, rfl, trivial⟩
      | false =>
        refine am_wb1 rfl false hb2 rfl ?_
        refine am_wn 1 (pc1 := 26) (lv1 := [(3, .int (ed_b e m)), (2, .int (nI (8 - (m + 1)))), (0, .long e)]) (st1 := [.int 0]) (h1 := h) rfl ?_
        refine am_wr rfl rfl rfl ?_
        rw [ed_ne] at hb2
        rw [show ed_al e (m + 1) = false by simp [ed_al, hb1, hb2]] at hQ
        exact hQ
set_option maxRecDepth 100000 in
set_option maxHeartbeats 4000000 in
theorem ec_ar (xs : Option (List Int32)) (d : Nat) (h : List am_E) (Q : Option Value → List am_E → Prop) (e : Int64) (hQ : Q (some (.int (bif ed_al e 8 then 1 else 0))) h) : am_W (am_CX xs) (d + 1) 21 0 [(0, .long e)] [] h Q := by
  refine am_wn 2 (pc1 := 2) (lv1 := [(2, .int 0), (0, .long e)]) (st1 := []) (h1 := h) rfl ?_
  exact ec_arl xs d h Q e 8 (Nat.le_refl 8) hQ
set_option maxRecDepth 100000 in
set_option maxHeartbeats 4000000 in
theorem ec_szl (xs : Option (List Int32)) (d : Nat) (h : List am_E) (Q : Option Value → List am_E → Prop) (e : Int64) : ∀ m, m ≤ 8 → ∀ a : Nat, Q (some (.int (nI (a + ed_n e m)))) h → am_W (am_CX xs) (d + 1) 20 4 [(3, .int (nI (8 - m))), (2, .int (nI a)), (0, .long e)] [] h Q := by
  intro m
  induction m with
  | zero =>
    intro _ a hQ
    refine am_wn 4 (pc1 := 28) (lv1 := [(3, .int (nI 8)), (2, .int (nI a)), (0, .long e)]) (st1 := [.int (nI a)]) (h1 := h) rfl ?_
    refine am_wr rfl rfl rfl ?_
    exact hQ
  | succ m ih =>
    intro hm a hQ
    have hm : m < 8 := hm
    refine am_wn 2 (pc1 := 7) (lv1 := [(3, .int (nI (8 - (m + 1)))), (2, .int (nI a)), (0, .long e)]) (st1 := [.int 8, .int (nI (8 - (m + 1)))]) (h1 := h) rfl ?_
    refine am_wb2 rfl false (ed_ge m hm) rfl ?_
    refine am_wn 2 (pc1 := 12) (lv1 := [(3, .int (nI (8 - (m + 1)))), (2, .int (nI a)), (0, .long e)]) (st1 := [.int (nI (8 - (m + 1))), .long e]) (h1 := h) rfl ?_
    refine am_wc rfl rfl rfl ?_
    refine ec_byte _ _ _ _ _ _ ?_
    rw [ed_sh m hm]
    show am_W _ _ 20 15 [(3, .int (nI (8 - (m + 1)))), (2, .int (nI a)), (0, .long e)] [.int (ed_b e m)] h _
    cases hb1 : am_if .eq (ed_b e m) 0 with
    | true =>
      refine am_wb1 rfl true hb1 rfl ?_
      refine am_wn 2 (pc1 := 4) (lv1 := [(3, .int ((nI (8 - (m + 1))) + 1)), (2, .int (nI a)), (0, .long e)]) (st1 := []) (h1 := h) rfl ?_
      rw [show a + ed_n e (m + 1) = a + ed_n e m by simp [ed_n, hb1]] at hQ
      rw [ed_up m hm]
      exact ih (Nat.le_of_lt hm) a hQ
    | false =>
      refine am_wb1 rfl false hb1 rfl ?_
      refine am_wn 3 (pc1 := 4) (lv1 := [(3, .int ((nI (8 - (m + 1))) + 1)), (2, .int ((nI a) + 1)), (0, .long e)]) (st1 := []) (h1 := h) rfl ?_
      rw [show a + ed_n e (m + 1) = (a + 1) + ed_n e m by simp [ed_n, hb1]; omega] at hQ
      rw [ed_up m hm, nI_1]
      exact ih (Nat.le_of_lt hm) (a + 1) hQ
set_option maxRecDepth 100000 in
set_option maxHeartbeats 4000000 in
theorem ec_sz (xs : Option (List Int32)) (d : Nat) (h : List am_E) (Q : Option Value → List am_E → Prop) (e : Int64) (hQ : Q (some (.int (nI (ed_n e 8)))) h) : am_W (am_CX xs) (d + 1) 20 0 [(0, .long e)] [] h Q := by
  refine am_wn 4 (pc1 := 4) (lv1 := [(3, .int 0), (2, .int 0), (0, .long e)]) (st1 := []) (h1 := h) rfl ?_
  exact ec_szl xs d h Q e 8 (Nat.le_refl 8) 0 (by rw [Nat.zero_add]; exact hQ)
end
section
theorem ed_dp : ∀ n, n ≤ 8 → ¬ (0 + nI n) < 0 ∧ (0 + nI n).toNatClampNeg ≤ 200 := by
  intro n hn
  have h : ∀ n, n < 9 → ¬ (0 + nI n) < 0 ∧ (0 + nI n).toNatClampNeg ≤ 200 := by decide +kernel
  exact h n (by omega)
theorem ed_200 : ∀ n, n ≤ 8 → am_if .le (0 + nI n) 200 = true := by
  intro n hn
  have h : ∀ n, n < 9 → am_if .le (0 + nI n) 200 = true := by decide +kernel
  exact h n (by omega)
theorem ed_q {q : Nat} (h : q < 200) : am_if .ge (nI q) 200 = false := decide_eq_false (nI_ge (a := q) (b := 200) h (by decide))
theorem ed_pq {p q : Int32} (h1 : am_if .lt p 0 = false) (h2 : am_if .gt p 0 = false) (h3 : am_if .lt q 0 = false) (h4 : am_if .le q (0 - p) = true) : p = 0 ∧ q = 0 := by
  have g1 : ¬ p < 0 := of_decide_eq_false h1
  have g2 : ¬ 0 < p := of_decide_eq_false h2
  have g3 : ¬ q < 0 := of_decide_eq_false h3
  have g4 : q ≤ 0 - p := of_decide_eq_true h4
  have e : p = 0 := Int32.le_antisymm (Int32.not_lt.mp g2) (Int32.not_lt.mp g1)
  subst e
  have g5 : q ≤ 0 := g4
  exact ⟨rfl, Int32.le_antisymm g5 (Int32.not_lt.mp g3)⟩
theorem ed_pq2 {p q : Int32} (h1 : am_if .lt p 0 = false) (h2 : am_if .gt p 0 = false) (h3 : am_if .lt q 0 = false) (h4 : am_if .gt q (0 - p) = false) : p = 0 ∧ q = 0 := by
  refine ed_pq h1 h2 h3 ?_
  have g4 : ¬ 0 - p < q := of_decide_eq_false h4
  exact decide_eq_true (Int32.not_lt.mp g4)
def ed_k : Nat → Int32
  | 0 => -8
  | i + 1 => nI (8 * i)
theorem ed_kd : ∀ m, m < 8 → nI (8 * m) + (-8) = ed_k m := by decide +kernel
theorem ed_kp : ∀ m, m < 8 → am_if .lt (nI (8 * m)) 0 = false := by decide +kernel
end
section
def oj_0 (f8 : Int32) : am_E := .inr (0, [.ref 3, .ref 5, .ref 10, .ref 13, .ref 17, .ref 26, .ref 27, .ref 28, .int f8])
def oj_1 (f1 : Int32) : am_E := .inr (1, [.ref 4, .int f1])
def oj_2 (f5 f6 f7 : Int32) : am_E := .inr (2, [.ref 3, .ref 6, .ref 7, .ref 8, .ref 9, .int f5, .int f6, .int f7])
def oj_3 (f2 : Int32) : am_E := .inr (3, [.ref 11, .ref 12, .int f2])
def oj_4 (f3 : Int32) : am_E := .inr (4, [.ref 14, .ref 15, .ref 16, .int f3])
def oj_5 (f8 : Int32) : am_E := .inr (5, [.ref 18, .ref 19, .ref 20, .ref 21, .ref 22, .ref 23, .ref 24, .ref 25, .int f8])
def oj_6 (f4 f5 f6 f7 f8 f9 f10 f11 f12 : Int32) : am_E := .inr (6, [.ref 5, .ref 13, .ref 17, .ref 10, .int f4, .int f5, .int f6, .int f7, .int f8, .int f9, .int f10, .int f11, .int f12])
def oj_7 (f3 f4 : Int32) : am_E := .inr (7, [.ref 3, .ref 13, .ref 17, .int f3, .int f4])
def oj_8 (f3 f4 : Int32) : am_E := .inr (8, [.ref 29, .ref 30, .ref 31, .int f3, .int f4])
def oj_9 (f0 f4 f5 f12 f13 f14 f17 f18 f19 f20 f23 f31 f33 f34 : Int32) : am_E := .inr (9, [.int f0, .ref 33, .ref 34, .ref 35, .int f4, .int f5, .ref 36, .ref 37, .ref 38, .ref 39, .ref 40, .ref 41, .int f12, .int f13, .int f14, .ref 42, .ref 43, .int f17, .int f18, .int f19, .int f20, .ref 44, .ref 45, .int f23, .ref 46, .ref 47, .ref 48, .ref 49, .ref 50, .ref 51, .ref 52, .int f31, .ref 53, .int f33, .int f34, .ref 54, .ref 55])
def HH (u0 u1 u2 u3 u4 u5 u6 u7 u8 u9 u10 u11 u12 u13 u14 u15 u16 u17 u18 u19 u20 u21 u22 u23 u24 u25 u26 u27 u28 u29 u30 u31 u32 u33 u34 u35 u36 u37 u38 u39 u40 u41 u42 u43 u44 u45 u46 u47 u48 u49 u50 u51 u52 u53 : am_E) : List am_E := [u0, u1, u2, u3, u4, u5, u6, u7, u8, u9, u10, u11, u12, u13, u14, u15, u16, u17, u18, u19, u20, u21, u22, u23, u24, u25, u26, u27, u28, u29, u30, u31, u32, u33, u34, u35, u36, u37, u38, u39, u40, u41, u42, u43, u44, u45, u46, u47, u48, u49, u50, u51, u52, u53]
/-! The characters that a long carries. -/
def ed_bs (e : Int64) : Nat → List Int32
  | 0 => []
  | m + 1 => (bif am_if .eq (ed_b e m) 0 then [] else [ed_b e m]) ++ ed_bs e m
theorem ed_bs_len (e : Int64) : ∀ m, (ed_bs e m).length = ed_n e m := by
  intro m
  induction m with
  | zero => rfl
  | succ m ih =>
    show ((bif am_if .eq (ed_b e m) 0 then [] else [ed_b e m]) ++ ed_bs e m).length = (bif am_if .eq (ed_b e m) 0 then 0 else 1) + ed_n e m
    rw [List.length_append, ih]
    cases am_if .eq (ed_b e m) 0 <;> rfl
/-- what a loop over the eight lays into an array from place q on -/
def ed_w (e : Int64) : Nat → Nat → List Int32 → List Int32
  | 0, _, l => l
  | m + 1, q, l => bif am_if .eq (ed_b e m) 0 then ed_w e m q l else ed_w e m (q + 1) (l.set q (ed_b e m))
theorem ed_w_len (e : Int64) : ∀ (m q : Nat) (l : List Int32), (ed_w e m q l).length = l.length := by
  intro m
  induction m with
  | zero => intro q l; rfl
  | succ m ih =>
    intro q l
    show (bif am_if .eq (ed_b e m) 0 then ed_w e m q l else ed_w e m (q + 1) (l.set q (ed_b e m))).length = l.length
    cases am_if .eq (ed_b e m) 0
    · show (ed_w e m (q + 1) (l.set q (ed_b e m))).length = l.length
      rw [ih, List.length_set]
    · exact ih q l
theorem ed_w_get (e : Int64) : ∀ (m q : Nat) (l : List Int32), q + ed_n e m ≤ l.length → ∀ j : Nat, (ed_w e m q l)[j]? = if q ≤ j ∧ j < q + ed_n e m then (ed_bs e m)[j - q]? else l[j]? := by
  intro m
  induction m with
  | zero =>
    intro q l _ j
    rw [if_neg (by show ¬ (q ≤ j ∧ j < q + 0); omega)]
    rfl
  | succ m ih =>
    intro q l hq j
    have hn : ed_n e (m + 1) = (bif am_if .eq (ed_b e m) 0 then 0 else 1) + ed_n e m := rfl
    have hw : ed_w e (m + 1) q l = (bif am_if .eq (ed_b e m) 0 then ed_w e m q l else ed_w e m (q + 1) (l.set q (ed_b e m))) := rfl
    have hb : ed_bs e (m + 1) = (bif am_if .eq (ed_b e m) 0 then [] else [ed_b e m]) ++ ed_bs e m := rfl
    rw [hn] at hq ⊢
    rw [hw, hb]
    cases hc : am_if .eq (ed_b e m) 0 with
    | true =>
      rw [hc] at hq
      simp only [cond_true, Nat.zero_add, List.nil_append] at hq ⊢
      exact ih q l hq j
    | false =>
      rw [hc] at hq
      simp only [cond_false] at hq ⊢
      rw [ih (q + 1) (l.set q (ed_b e m)) (by rw [List.length_set]; omega) j]
      by_cases hj : j = q
      · subst hj
        rw [if_neg (by omega), if_pos (by omega), List.getElem?_set_self (by omega), Nat.sub_self]
        rfl
      · by_cases h2 : q + 1 ≤ j ∧ j < q + 1 + ed_n e m
        · rw [if_pos h2, if_pos (by omega)]
          have e1 : j - q = (j - (q + 1)) + 1 := by omega
          rw [e1]
          rfl
        · rw [if_neg h2, if_neg (by omega), List.getElem?_set_ne (fun z => hj z.symm)]
theorem ed_b_lt (e : Int64) (m : Nat) : ∃ n, n < 256 ∧ ed_b e m = nI n := by
  obtain ⟨j, hj, h⟩ := pk_andE (Int64.toInt32 (((Int64.toUInt64 e) >>> ((Int32.toInt64 (nI (8 * m))).toUInt64 &&& Int64.toUInt64 63)).toInt64)) (m := 255) 8 (by decide +kernel)
  exact ⟨j, hj, h⟩
theorem ed_nar (e : Int64) (m : Nat) : vp_nar .char ((Int32.toUInt32 (ed_b e m)) % 65536).toInt32 = ed_b e m := by
  obtain ⟨n, hn, h⟩ := ed_b_lt e m
  rw [h]
  have hh : ∀ n, n < 256 → vp_nar .char ((Int32.toUInt32 (nI n)) % 65536).toInt32 = nI n := by decide +kernel
  exact hh n hn
theorem ed_fit (e : Int64) (m : Nat) : fits .char (.int (ed_b e m)) = true := by
  obtain ⟨n, hn, h⟩ := ed_b_lt e m
  rw [h]
  have hh : ∀ n, n < 256 → fits .char (.int (nI n)) = true := by decide +kernel
  exact hh n hn
theorem ed_bs_fit (e : Int64) : ∀ m, ∀ c ∈ ed_bs e m, fits .char (.int c) = true := by
  intro m
  induction m with
  | zero => intro c hc; cases hc
  | succ m ih =>
    intro c hc
    rcases List.mem_append.mp hc with h | h
    · cases hz : am_if .eq (ed_b e m) 0 with
      | true => rw [hz] at h; cases h
      | false =>
        rw [hz] at h
        rcases List.mem_singleton.mp h with rfl
        exact ed_fit e m
    · exact ih c h
theorem ed_bs_ok (e : Int64) : ∀ m, ed_al e m = true → ∀ c ∈ ed_bs e m, ed_ok c = true := by
  intro m
  induction m with
  | zero => intro _ c hc; cases hc
  | succ m ih =>
    intro ha c hc
    have ha : ((am_if .eq (ed_b e m) 0 || ed_ok (ed_b e m)) && ed_al e m) = true := ha
    rw [Bool.and_eq_true] at ha
    rcases List.mem_append.mp hc with h | h
    · cases hz : am_if .eq (ed_b e m) 0 with
      | true => rw [hz] at h; cases h
      | false =>
        rw [hz] at h
        rcases List.mem_singleton.mp h with rfl
        have h1 := ha.1
        rw [hz] at h1
        exact h1
    · exact ih ha.2 c h
/-! A text in an array: the first of its places. -/
def tx_in (t l : List Int32) : Prop := l.length = 200 ∧ t.length ≤ 200 ∧ ∀ i, i < t.length → l[i]? = t[i]?
def tx_new (t : List Int32) (a k : Nat) (e : Int64) : List Int32 := t.take a ++ (ed_bs e 8 ++ t.drop (a + k))
theorem tx_new_len {t : List Int32} {a k : Nat} {e : Int64} (h : a + k ≤ t.length) : (tx_new t a k e).length = t.length - k + ed_n e 8 := by
  unfold tx_new
  rw [List.length_append, List.length_append, List.length_take, List.length_drop, ed_bs_len]
  omega
theorem tx_new_get {t : List Int32} {a k : Nat} {e : Int64} (h : a + k ≤ t.length) (j : Nat) : (tx_new t a k e)[j]? = if j < a then t[j]? else if j < a + ed_n e 8 then (ed_bs e 8)[j - a]? else t[j - ed_n e 8 + k]? := by
  have l1 : (t.take a).length = a := by rw [List.length_take]; omega
  unfold tx_new
  by_cases h1 : j < a
  · rw [if_pos h1, List.getElem?_append_left (by rw [l1]; exact h1), List.getElem?_take_of_lt h1]
  · rw [if_neg h1, List.getElem?_append_right (by rw [l1]; omega), l1]
    by_cases h2 : j < a + ed_n e 8
    · rw [if_pos h2, List.getElem?_append_left (by rw [ed_bs_len]; omega)]
    · rw [if_neg h2, List.getElem?_append_right (by rw [ed_bs_len]; omega), ed_bs_len, List.getElem?_drop]
      congr 1
      omega
theorem tx_new_ok {t : List Int32} {a k : Nat} {e : Int64} (h : ∀ c ∈ t, ed_ok c = true) (ha : ed_al e 8 = true) : ∀ c ∈ tx_new t a k e, ed_ok c = true := by
  intro c hc
  rcases List.mem_append.mp hc with h1 | h1
  · exact h c (List.mem_of_mem_take h1)
  · rcases List.mem_append.mp h1 with h2 | h2
    · exact ed_bs_ok e 8 ha c h2
    · exact h c (List.mem_of_mem_drop h2)
/-- the class's replace -/
theorem tx_repx {t l : List Int32} {a k : Nat} {e : Int64} (ht : tx_in t l) (h : a + k ≤ t.length) (h2 : t.length - k + ed_n e 8 ≤ 200) : tx_in (tx_new t a k e) (ed_w e 8 a (am_cp l l (a + k) (a + ed_n e 8) (t.length - a - k))) := by
  obtain ⟨h3, h4, h5⟩ := ht
  have c1 : a + k + (t.length - a - k) ≤ l.length := by omega
  have c2 : a + ed_n e 8 + (t.length - a - k) ≤ l.length := by omega
  have hl := am_cp_len c1 c2
  refine ⟨by rw [ed_w_len, hl, h3], by rw [tx_new_len h]; exact h2, fun j hj => ?_⟩
  rw [tx_new_len h] at hj
  rw [ed_w_get e 8 a _ (by rw [hl]; omega), tx_new_get h, am_cp_get c1 c2]
  by_cases g1 : j < a
  · rw [if_neg (by omega), if_neg (by omega), if_pos g1]
    exact h5 j (by omega)
  · rw [if_neg g1]
    by_cases g2 : j < a + ed_n e 8
    · rw [if_pos (by omega), if_pos g2]
    · rw [if_neg (by omega), if_pos (by omega), if_neg g2]
      have e1 : a + k + (j - (a + ed_n e 8)) = j - ed_n e 8 + k := by omega
      rw [e1]
      exact h5 _ (by omega)
theorem tx_fit {l : List Int32} {a : Nat} {e : Int64} (hf : ∀ c ∈ l, fits .char (.int c) = true) : ∀ m (q : Nat) (l : List Int32), (∀ c ∈ l, fits .char (.int c) = true) → ∀ c ∈ ed_w e m q l, fits .char (.int c) = true := by
  intro m
  induction m with
  | zero => intro q l hl c hc; exact hl c hc
  | succ m ih =>
    intro q l hl
    show ∀ c ∈ (bif am_if .eq (ed_b e m) 0 then ed_w e m q l else ed_w e m (q + 1) (l.set q (ed_b e m))), fits .char (.int c) = true
    cases am_if .eq (ed_b e m) 0
    · refine ih (q + 1) _ (fun c hc => ?_)
      rcases List.mem_or_eq_of_mem_set hc with h | h
      · exact hl c h
      · rw [h]; exact ed_fit e m
    · exact ih q l hl
theorem tx_cpf {l : List Int32} {a b n : Nat} (hf : ∀ c ∈ l, fits .char (.int c) = true) : ∀ c ∈ am_cp l l a b n, fits .char (.int c) = true := by
  intro c hc
  rcases List.mem_append.mp hc with h | h
  · exact hf c (List.mem_of_mem_take h)
  · rcases List.mem_append.mp h with h | h
    · exact hf c (List.mem_of_mem_drop (List.mem_of_mem_take h))
    · exact hf c (List.mem_of_mem_drop h)
set_option maxRecDepth 100000 in
set_option maxHeartbeats 4000000 in
theorem wx_rpl (xs : Option (List Int32)) (d : Nat) {u0 u3 u4 u5 u6 u7 u8 u9 u10 u11 u12 u13 u14 u15 u16 u17 u18 u19 u20 u21 u22 u23 u24 u25 u26 u27 u28 u29 u30 u31 u32 u33 u34 u35 u36 u37 u38 u39 u40 u41 u42 u43 u44 u45 u46 u47 u48 u49 u50 u51 u52 u53 : am_E} (n cut put : Int32) (Q : Option Value → List am_E → Prop) (e : Int64) : ∀ m, m ≤ 8 → ∀ (q : Nat) (l : List Int32), q + ed_n e m ≤ 200 → l.length = 200 → Q none (HH u0 (oj_1 ((n - cut) + put)) (.inl (true, (ed_w e m q l))) u3 u4 u5 u6 u7 u8 u9 u10 u11 u12 u13 u14 u15 u16 u17 u18 u19 u20 u21 u22 u23 u24 u25 u26 u27 u28 u29 u30 u31 u32 u33 u34 u35 u36 u37 u38 u39 u40 u41 u42 u43 u44 u45 u46 u47 u48 u49 u50 u51 u52 u53) → am_W (am_CX xs) (d + 1) 86 38 [(7, .int (nI (8 - m))), (6, .int (nI q)), (5, .int put), (0, .ref 3), (2, .int cut), (3, .long e)] [] (HH u0 (oj_1 n) (.inl (true, l)) u3 u4 u5 u6 u7 u8 u9 u10 u11 u12 u13 u14 u15 u16 u17 u18 u19 u20 u21 u22 u23 u24 u25 u26 u27 u28 u29 u30 u31 u32 u33 u34 u35 u36 u37 u38 u39 u40 u41 u42 u43 u44 u45 u46 u47 u48 u49 u50 u51 u52 u53) Q := by
  intro m
  induction m with
  | zero =>
    intro _ q l _ hl hQ
    refine am_wh 2 (pc1 := 42) (lv1 := [(7, .int (nI 8)), (6, .int (nI q)), (5, .int put), (0, .ref 3), (2, .int cut), (3, .long e)]) (st1 := [.int 8, .int (nI 8)]) rfl ?_
    refine am_wb2 rfl true ((by decide +kernel : am_if .ge (nI 8) 8 = true)) rfl ?_
    refine am_wn 8 (pc1 := 98) (lv1 := [(7, .int (nI 8)), (6, .int (nI q)), (5, .int put), (0, .ref 3), (2, .int cut), (3, .long e)]) (st1 := []) (h1 := (HH u0 (oj_1 ((n - cut) + put)) (.inl (true, l)) u3 u4 u5 u6 u7 u8 u9 u10 u11 u12 u13 u14 u15 u16 u17 u18 u19 u20 u21 u22 u23 u24 u25 u26 u27 u28 u29 u30 u31 u32 u33 u34 u35 u36 u37 u38 u39 u40 u41 u42 u43 u44 u45 u46 u47 u48 u49 u50 u51 u52 u53)) rfl ?_
    refine am_wr rfl rfl rfl ?_
    exact hQ
  | succ m ih =>
    intro hm q l hq hl hQ
    have hm8 : m < 8 := hm
    refine am_wh 2 (pc1 := 42) (lv1 := [(7, .int (nI (8 - (m + 1)))), (6, .int (nI q)), (5, .int put), (0, .ref 3), (2, .int cut), (3, .long e)]) (st1 := [.int 8, .int (nI (8 - (m + 1)))]) rfl ?_
    refine am_wb2 rfl false (ed_ge m hm8) rfl ?_
    refine am_wh 2 (pc1 := 48) (lv1 := [(7, .int (nI (8 - (m + 1)))), (6, .int (nI q)), (5, .int put), (0, .ref 3), (2, .int cut), (3, .long e)]) (st1 := [.int (nI (8 - (m + 1))), .long e]) rfl ?_
    refine am_wc rfl rfl rfl ?_
    refine ec_byte _ _ _ _ _ _ ?_
    rw [ed_sh m hm8]
    show am_W _ _ 86 51 [(7, .int (nI (8 - (m + 1)))), (6, .int (nI q)), (5, .int put), (0, .ref 3), (2, .int cut), (3, .long e)] [.int (ed_b e m)] _ _
    refine am_wh 2 (pc1 := 55) (lv1 := [(8, .int (ed_b e m)), (7, .int (nI (8 - (m + 1)))), (6, .int (nI q)), (5, .int put), (0, .ref 3), (2, .int cut), (3, .long e)]) (st1 := [.int (ed_b e m)]) rfl ?_
    cases hb1 : am_if .eq (ed_b e m) 0 with
    | true =>
      have hw : ed_w e (m + 1) q l = ed_w e m q l := by show (bif am_if .eq (ed_b e m) 0 then _ else _) = _; rw [hb1]; rfl
      have hn : ed_n e (m + 1) = ed_n e m := by show (bif am_if .eq (ed_b e m) 0 then 0 else 1) + _ = _; rw [hb1]; exact Nat.zero_add _
      refine am_wb1 rfl true hb1 rfl ?_
      refine am_wh 2 (pc1 := 38) (lv1 := [(7, .int ((nI (8 - (m + 1))) + 1)), (8, .int (ed_b e m)), (6, .int (nI q)), (5, .int put), (0, .ref 3), (2, .int cut), (3, .long e)]) (st1 := []) rfl ?_
      rw [ed_up m hm8]
      exact am_wm (ih (Nat.le_of_lt hm8) q l (by omega) hl (by rw [hw] at hQ; exact hQ)) ⟨rfl, rfl, rfl, rfl, rfl, rfl, trivial⟩
    | false =>
      have hw : ed_w e (m + 1) q l = ed_w e m (q + 1) (l.set q (ed_b e m)) := by show (bif am_if .eq (ed_b e m) 0 then _ else _) = _; rw [hb1]; rfl
      have hn : ed_n e (m + 1) = 1 + ed_n e m := by show (bif am_if .eq (ed_b e m) 0 then 0 else 1) + _ = _; rw [hb1]; rfl
      refine am_wb1 rfl false hb1 rfl ?_
      refine am_wh 2 (pc1 := 63) (lv1 := [(8, .int (ed_b e m)), (7, .int (nI (8 - (m + 1)))), (6, .int (nI q)), (5, .int put), (0, .ref 3), (2, .int cut), (3, .long e)]) (st1 := [.int 200, .int (nI q)]) rfl ?_
      refine am_wb2 rfl false (ed_q (by omega)) rfl ?_
      refine am_wh 5 (pc1 := 75) (lv1 := [(8, .int (ed_b e m)), (7, .int (nI (8 - (m + 1)))), (6, .int (nI q)), (5, .int put), (0, .ref 3), (2, .int cut), (3, .long e)]) (st1 := [.int ((Int32.toUInt32 (ed_b e m)) % 65536).toInt32, .int (nI q), .ref 4]) rfl ?_
      refine am_wscE (i := q) (h1 := (HH u0 (oj_1 n) (.inl (true, (l.set q (ed_b e m)))) u3 u4 u5 u6 u7 u8 u9 u10 u11 u12 u13 u14 u15 u16 u17 u18 u19 u20 u21 u22 u23 u24 u25 u26 u27 u28 u29 u30 u31 u32 u33 u34 u35 u36 u37 u38 u39 u40 u41 u42 u43 u44 u45 u46 u47 u48 u49 u50 u51 u52 u53)) rfl rfl (rfl) (by omega) (by omega) (by rw [ed_nar]; rfl) ?_
      refine am_wh 3 (pc1 := 38) (lv1 := [(7, .int ((nI (8 - (m + 1))) + 1)), (6, .int ((nI q) + 1)), (8, .int (ed_b e m)), (5, .int put), (0, .ref 3), (2, .int cut), (3, .long e)]) (st1 := []) rfl ?_
      rw [ed_up m hm8, nI_1]
      exact am_wm (ih (Nat.le_of_lt hm8) (q + 1) _ (by omega) (by rw [List.length_set]; exact hl) (by rw [hw] at hQ; exact hQ)) ⟨rfl, rfl, rfl, rfl, rfl, rfl, trivial⟩
set_option maxRecDepth 100000 in
set_option maxHeartbeats 4000000 in
theorem wx_rep (xs : Option (List Int32)) (d : Nat) {u0 u3 u4 u5 u6 u7 u8 u9 u10 u11 u12 u13 u14 u15 u16 u17 u18 u19 u20 u21 u22 u23 u24 u25 u26 u27 u28 u29 u30 u31 u32 u33 u34 u35 u36 u37 u38 u39 u40 u41 u42 u43 u44 u45 u46 u47 u48 u49 u50 u51 u52 u53 : am_E} (n a k : Nat) (Q : Option Value → List am_E → Prop) (e : Int64) (l : List Int32) (hl : l.length = 200) (hf : ∀ c ∈ l, fits .char (.int c) = true) (h1 : a + k ≤ n) (h2 : n ≤ 200) (h3 : n - k + ed_n e 8 ≤ 200) (hQ : Q none (HH u0 (oj_1 (((nI n) - (nI k)) + (nI (ed_n e 8)))) (.inl (true, (ed_w e 8 a (am_cp l l (a + k) (a + ed_n e 8) (n - a - k))))) u3 u4 u5 u6 u7 u8 u9 u10 u11 u12 u13 u14 u15 u16 u17 u18 u19 u20 u21 u22 u23 u24 u25 u26 u27 u28 u29 u30 u31 u32 u33 u34 u35 u36 u37 u38 u39 u40 u41 u42 u43 u44 u45 u46 u47 u48 u49 u50 u51 u52 u53)) : am_W (am_CX xs) (d + 2) 86 0 [(0, .ref 3), (1, .int (nI a)), (2, .int (nI k)), (3, .long e)] [] (HH u0 (oj_1 (nI n)) (.inl (true, l)) u3 u4 u5 u6 u7 u8 u9 u10 u11 u12 u13 u14 u15 u16 u17 u18 u19 u20 u21 u22 u23 u24 u25 u26 u27 u28 u29 u30 u31 u32 u33 u34 u35 u36 u37 u38 u39 u40 u41 u42 u43 u44 u45 u46 u47 u48 u49 u50 u51 u52 u53) Q := by
  have hn8 : ed_n e 8 ≤ 8 := ed_n_le e 8
  refine am_wh 1 (pc1 := 1) (lv1 := [(0, .ref 3), (1, .int (nI a)), (2, .int (nI k)), (3, .long e)]) (st1 := [.long e]) rfl ?_
  refine am_wc rfl rfl rfl ?_
  refine ec_sz _ _ _ _ _ ?_
  show am_W _ _ 86 4 [(0, .ref 3), (1, .int (nI a)), (2, .int (nI k)), (3, .long e)] [.int (nI (ed_n e 8))] _ _
  refine am_wh 17 (pc1 := 29) (lv1 := [(5, .int (nI (ed_n e 8))), (0, .ref 3), (1, .int (nI a)), (2, .int (nI k)), (3, .long e)]) (st1 := [.int (((nI n) - (nI a)) - (nI k)), .int ((nI a) + (nI (ed_n e 8))), .ref 4, .int ((nI a) + (nI k)), .ref 4]) rfl ?_
  refine am_w0 (z := (32, [(5, .int (nI (ed_n e 8))), (0, .ref 3), (1, .int (nI a)), (2, .int (nI k)), (3, .long e)], [], (HH u0 (oj_1 (nI n)) (.inl (true, (am_cp l l (a + k) (a + ed_n e 8) (n - a - k)))) u3 u4 u5 u6 u7 u8 u9 u10 u11 u12 u13 u14 u15 u16 u17 u18 u19 u20 u21 u22 u23 u24 u25 u26 u27 u28 u29 u30 u31 u32 u33 u34 u35 u36 u37 u38 u39 u40 u41 u42 u43 u44 u45 u46 u47 u48 u49 u50 u51 u52 u53))) rfl rfl (show am_acp (d + 1 + 1) 29 [(5, .int (nI (ed_n e 8))), (0, .ref 3), (1, .int (nI a)), (2, .int (nI k)), (3, .long e)] [.int (((nI n) - (nI a)) - (nI k)), .int ((nI a) + (nI (ed_n e 8))), .ref 4, .int ((nI a) + (nI k)), .ref 4] (HH u0 (oj_1 (nI n)) (.inl (true, l)) u3 u4 u5 u6 u7 u8 u9 u10 u11 u12 u13 u14 u15 u16 u17 u18 u19 u20 u21 u22 u23 u24 u25 u26 u27 u28 u29 u30 u31 u32 u33 u34 u35 u36 u37 u38 u39 u40 u41 u42 u43 u44 u45 u46 u47 u48 u49 u50 u51 u52 u53) = some (32, [(5, .int (nI (ed_n e 8))), (0, .ref 3), (1, .int (nI a)), (2, .int (nI k)), (3, .long e)], [], (HH u0 (oj_1 (nI n)) (.inl (true, (am_cp l l (a + k) (a + ed_n e 8) (n - a - k)))) u3 u4 u5 u6 u7 u8 u9 u10 u11 u12 u13 u14 u15 u16 u17 u18 u19 u20 u21 u22 u23 u24 u25 u26 u27 u28 u29 u30 u31 u32 u33 u34 u35 u36 u37 u38 u39 u40 u41 u42 u43 u44 u45 u46 u47 u48 u49 u50 u51 u52 u53)) from am_acpG (j := 2) (k := 2) (a1 := a + k) (a2 := a + ed_n e 8) (a3 := n - a - k) (lo := l) (lq := l) rfl rfl (by omega) (by decide) (nI_add a k) (nI_add a _) (by rw [pk_sub (by omega), pk_sub (by omega)]) (by omega) (by omega) (by omega) hf rfl) ?_
  refine am_wh 4 (pc1 := 38) (lv1 := [(7, .int 0), (6, .int (nI a)), (5, .int (nI (ed_n e 8))), (0, .ref 3), (1, .int (nI a)), (2, .int (nI k)), (3, .long e)]) (st1 := []) rfl ?_
  exact am_wm (wx_rpl xs (d + 1) (nI n) (nI k) (nI (ed_n e 8)) Q e 8 (Nat.le_refl 8) a _ (by omega) (by rw [am_cp_len (by omega) (by omega)]; exact hl) hQ) ⟨rfl, rfl, rfl, rfl, rfl, rfl, trivial⟩
end
section
theorem ed_pl {p q : Int32} {n : Nat} (hn : n ≤ 200) (h1 : am_if .lt p 0 = false) (h2 : am_if .gt p (nI n) = false) (h3 : am_if .lt q 0 = false) (h4 : am_if .le q (nI n - p) = true) : ∃ a k : Nat, p = nI a ∧ q = nI k ∧ a + k ≤ n := by
  have g1 : ¬ p < 0 := of_decide_eq_false h1
  have g2 : ¬ nI n < p := of_decide_eq_false h2
  have g3 : ¬ q < 0 := of_decide_eq_false h3
  have g4 : q ≤ nI n - p := of_decide_eq_true h4
  obtain ⟨a, ha, rfl⟩ := nI_of g1
  obtain ⟨k, hk, rfl⟩ := nI_of g3
  rw [nI_ltI (by omega) ha] at g2
  rw [pk_sub (by omega), nI_leI hk (by omega)] at g4
  exact ⟨a, k, rfl, rfl, by omega⟩
theorem ed_pl1 {a n : Nat} (hn : n ≤ 200) (h : a ≤ n) : am_if .lt (nI a) 0 = false := decide_eq_false (nI_pos (by omega))
theorem ed_pl2 {a n : Nat} (hn : n ≤ 200) (h : a ≤ n) : am_if .gt (nI a) (nI n) = false := decide_eq_false (by rw [nI_ltI (by omega) (by omega)]; omega)
theorem ed_pl4 {a k n : Nat} (hn : n ≤ 200) (h : a + k ≤ n) : am_if .le (nI k) (nI n - nI a) = true := decide_eq_true (by rw [pk_sub (by omega), nI_leI (by omega) (by omega)]; omega)
theorem ed_pl5 {a k n : Nat} (hn : n ≤ 200) (h : a + k ≤ n) : am_if .gt (nI k) (nI n - nI a) = false := decide_eq_false (by rw [pk_sub (by omega), nI_ltI (by omega) (by omega)]; omega)
theorem ed_full {k n m : Nat} (hn : n ≤ 200) (h : k ≤ n) (hm : m ≤ 8) : am_if .le (nI n - nI k + nI m) 200 = decide (n - k + m ≤ 200) := by
  rw [pk_sub h, nI_add]
  show decide (nI (n - k + m) ≤ nI 200) = _
  exact decide_eq_decide.mpr (nI_leI (by omega) (by omega))
set_option maxRecDepth 100000 in
set_option maxHeartbeats 4000000 in
theorem wx_edn (xs : Option (List Int32)) (d n : Nat) {u3 u4 u5 u6 u7 u8 u9 u10 u11 u12 u13 u14 u15 u16 u17 u18 u19 u20 u21 u22 u23 u24 u25 u26 u27 u28 u29 u30 u31 u32 u33 u34 u35 u36 u37 u38 u39 u40 u41 u42 u43 u44 u45 u46 u47 u48 u49 u50 u51 u52 u53 : am_E} (s p q : Int32) (e : Int64) (l : List Int32) (Q : Option Value → List am_E → Prop) (hn : n ≤ 200) (hpl : ¬ ∃ a k : Nat, p = nI a ∧ q = nI k ∧ a + k ≤ n) (hQ : Q (some (.int (-1))) (HH (oj_0 s) (oj_1 (nI n)) (.inl (true, l)) u3 u4 u5 u6 u7 u8 u9 u10 u11 u12 u13 u14 u15 u16 u17 u18 u19 u20 u21 u22 u23 u24 u25 u26 u27 u28 u29 u30 u31 u32 u33 u34 u35 u36 u37 u38 u39 u40 u41 u42 u43 u44 u45 u46 u47 u48 u49 u50 u51 u52 u53)) : am_W (am_CX xs) d 109 0 [(0, .ref 2), (1, .int p), (2, .int q), (3, .long e)] [] (HH (oj_0 s) (oj_1 (nI n)) (.inl (true, l)) u3 u4 u5 u6 u7 u8 u9 u10 u11 u12 u13 u14 u15 u16 u17 u18 u19 u20 u21 u22 u23 u24 u25 u26 u27 u28 u29 u30 u31 u32 u33 u34 u35 u36 u37 u38 u39 u40 u41 u42 u43 u44 u45 u46 u47 u48 u49 u50 u51 u52 u53) Q := by
  refine am_wh 1 (pc1 := 1) (lv1 := [(0, .ref 2), (1, .int p), (2, .int q), (3, .long e)]) (st1 := [.int p]) rfl ?_
  cases hb1 : am_if .lt p 0 with
  | true =>
    refine am_wb1 rfl true hb1 rfl ?_
    refine am_wh 1 (pc1 := 33) (lv1 := [(0, .ref 2), (1, .int p), (2, .int q), (3, .long e)]) (st1 := [.int (-1)]) rfl ?_
    refine am_wr rfl rfl rfl ?_
    exact hQ
  | false =>
    refine am_wb1 rfl false hb1 rfl ?_
    refine am_wh 4 (pc1 := 12) (lv1 := [(0, .ref 2), (1, .int p), (2, .int q), (3, .long e)]) (st1 := [.int (nI n), .int p]) rfl ?_
    cases hb2 : am_if .gt p (nI n) with
    | true =>
      refine am_wb2 rfl true hb2 rfl ?_
      refine am_wh 1 (pc1 := 33) (lv1 := [(0, .ref 2), (1, .int p), (2, .int q), (3, .long e)]) (st1 := [.int (-1)]) rfl ?_
      refine am_wr rfl rfl rfl ?_
      exact hQ
    | false =>
      refine am_wb2 rfl false hb2 rfl ?_
      refine am_wh 1 (pc1 := 16) (lv1 := [(0, .ref 2), (1, .int p), (2, .int q), (3, .long e)]) (st1 := [.int q]) rfl ?_
      cases hb3 : am_if .lt q 0 with
      | true =>
        refine am_wb1 rfl true hb3 rfl ?_
        refine am_wh 1 (pc1 := 33) (lv1 := [(0, .ref 2), (1, .int p), (2, .int q), (3, .long e)]) (st1 := [.int (-1)]) rfl ?_
        refine am_wr rfl rfl rfl ?_
        exact hQ
      | false =>
        refine am_wb1 rfl false hb3 rfl ?_
        refine am_wh 6 (pc1 := 29) (lv1 := [(0, .ref 2), (1, .int p), (2, .int q), (3, .long e)]) (st1 := [.int ((nI n) - p), .int q]) rfl ?_
        cases hb4 : am_if .le q ((nI n) - p) with
        | true =>
          refine am_wb2 rfl true hb4 rfl ?_
          exact absurd (ed_pl hn hb1 hb2 hb3 hb4) hpl
        | false =>
          refine am_wb2 rfl false hb4 rfl ?_
          refine am_wh 1 (pc1 := 33) (lv1 := [(0, .ref 2), (1, .int p), (2, .int q), (3, .long e)]) (st1 := [.int (-1)]) rfl ?_
          refine am_wr rfl rfl rfl ?_
          exact hQ
set_option maxRecDepth 100000 in
set_option maxHeartbeats 4000000 in
theorem wx_edy (xs : Option (List Int32)) (d n a k : Nat) {u3 u4 u5 u6 u7 u8 u9 u10 u11 u12 u13 u14 u15 u16 u17 u18 u19 u20 u21 u22 u23 u24 u25 u26 u27 u28 u29 u30 u31 u32 u33 u34 u35 u36 u37 u38 u39 u40 u41 u42 u43 u44 u45 u46 u47 u48 u49 u50 u51 u52 u53 : am_E} (s : Int32) (e : Int64) (l : List Int32) (hl : l.length = 200) (hf : ∀ c ∈ l, fits .char (.int c) = true) (Q : Option Value → List am_E → Prop) (hn : n ≤ 200) (hak : a + k ≤ n) (hQ0 : ed_al e 8 = false → Q (some (.int (-1))) (HH (oj_0 s) (oj_1 (nI n)) (.inl (true, l)) u3 u4 u5 u6 u7 u8 u9 u10 u11 u12 u13 u14 u15 u16 u17 u18 u19 u20 u21 u22 u23 u24 u25 u26 u27 u28 u29 u30 u31 u32 u33 u34 u35 u36 u37 u38 u39 u40 u41 u42 u43 u44 u45 u46 u47 u48 u49 u50 u51 u52 u53)) (hQ1 : ed_al e 8 = true → ¬ n - k + ed_n e 8 ≤ 200 → Q (some (.int (-2))) (HH (oj_0 s) (oj_1 (nI n)) (.inl (true, l)) u3 u4 u5 u6 u7 u8 u9 u10 u11 u12 u13 u14 u15 u16 u17 u18 u19 u20 u21 u22 u23 u24 u25 u26 u27 u28 u29 u30 u31 u32 u33 u34 u35 u36 u37 u38 u39 u40 u41 u42 u43 u44 u45 u46 u47 u48 u49 u50 u51 u52 u53)) (hQ2 : ed_al e 8 = true → n - k + ed_n e 8 ≤ 200 → Q (some (.int (((nI n) - (nI k)) + (nI (ed_n e 8))))) (HH (oj_0 1) (oj_1 (((nI n) - (nI k)) + (nI (ed_n e 8)))) (.inl (true, (ed_w e 8 a (am_cp l l (a + k) (a + ed_n e 8) (n - a - k))))) u3 u4 u5 u6 u7 u8 u9 u10 u11 u12 u13 u14 u15 u16 u17 u18 u19 u20 u21 u22 u23 u24 u25 u26 u27 u28 u29 u30 u31 u32 u33 u34 u35 u36 u37 u38 u39 u40 u41 u42 u43 u44 u45 u46 u47 u48 u49 u50 u51 u52 u53)) : am_W (am_CX xs) (d + 3) 109 0 [(0, .ref 2), (1, .int (nI a)), (2, .int (nI k)), (3, .long e)] [] (HH (oj_0 s) (oj_1 (nI n)) (.inl (true, l)) u3 u4 u5 u6 u7 u8 u9 u10 u11 u12 u13 u14 u15 u16 u17 u18 u19 u20 u21 u22 u23 u24 u25 u26 u27 u28 u29 u30 u31 u32 u33 u34 u35 u36 u37 u38 u39 u40 u41 u42 u43 u44 u45 u46 u47 u48 u49 u50 u51 u52 u53) Q := by
  have hn8 : ed_n e 8 ≤ 8 := ed_n_le e 8
  refine am_wh 1 (pc1 := 1) (lv1 := [(0, .ref 2), (1, .int (nI a)), (2, .int (nI k)), (3, .long e)]) (st1 := [.int (nI a)]) rfl ?_
  refine am_wb1 rfl false (ed_pl1 hn (by omega)) rfl ?_
  refine am_wh 4 (pc1 := 12) (lv1 := [(0, .ref 2), (1, .int (nI a)), (2, .int (nI k)), (3, .long e)]) (st1 := [.int (nI n), .int (nI a)]) rfl ?_
  refine am_wb2 rfl false (ed_pl2 hn (by omega)) rfl ?_
  refine am_wh 1 (pc1 := 16) (lv1 := [(0, .ref 2), (1, .int (nI a)), (2, .int (nI k)), (3, .long e)]) (st1 := [.int (nI k)]) rfl ?_
  refine am_wb1 rfl false (ed_pl1 hn (by omega)) rfl ?_
  refine am_wh 6 (pc1 := 29) (lv1 := [(0, .ref 2), (1, .int (nI a)), (2, .int (nI k)), (3, .long e)]) (st1 := [.int ((nI n) - (nI a)), .int (nI k)]) rfl ?_
  refine am_wb2 rfl true (ed_pl4 hn hak) rfl ?_
  refine am_wh 1 (pc1 := 35) (lv1 := [(0, .ref 2), (1, .int (nI a)), (2, .int (nI k)), (3, .long e)]) (st1 := [.long e]) rfl ?_
  refine am_wc rfl rfl rfl ?_
  refine ec_ar _ _ _ _ _ ?_
  show am_W _ _ 109 38 [(0, .ref 2), (1, .int (nI a)), (2, .int (nI k)), (3, .long e)] [.int (bif ed_al e 8 then 1 else 0)] _ _
  cases hb1 : am_if .ne (bif ed_al e 8 then 1 else 0) 0 with
  | true =>
    refine am_wb1 rfl true hb1 rfl ?_
    refine am_wh 6 (pc1 := 53) (lv1 := [(0, .ref 2), (1, .int (nI a)), (2, .int (nI k)), (3, .long e)]) (st1 := [.long e, .int ((nI n) - (nI k))]) rfl ?_
    refine am_wc rfl rfl rfl ?_
    refine ec_sz _ _ _ _ _ ?_
    show am_W _ _ 109 56 [(0, .ref 2), (1, .int (nI a)), (2, .int (nI k)), (3, .long e)] [.int (nI (ed_n e 8)), .int ((nI n) - (nI k))] _ _
    refine am_wh 2 (pc1 := 60) (lv1 := [(0, .ref 2), (1, .int (nI a)), (2, .int (nI k)), (3, .long e)]) (st1 := [.int 200, .int (((nI n) - (nI k)) + (nI (ed_n e 8)))]) rfl ?_
    cases hb2 : am_if .le (((nI n) - (nI k)) + (nI (ed_n e 8))) 200 with
    | true =>
      refine am_wb2 rfl true hb2 rfl ?_
      refine am_wh 5 (pc1 := 73) (lv1 := [(0, .ref 2), (1, .int (nI a)), (2, .int (nI k)), (3, .long e)]) (st1 := [.long e, .int (nI k), .int (nI a), .ref 3]) rfl ?_
      refine am_wc rfl rfl rfl ?_
      refine wx_rep xs d n a k _ e l hl hf hak hn (by rw [ed_full hn (by omega) hn8] at hb2; exact of_decide_eq_true hb2) ?_
      show am_W _ _ 109 76 [(0, .ref 2), (1, .int (nI a)), (2, .int (nI k)), (3, .long e)] [] _ _
      refine am_wn 6 (pc1 := 88) (lv1 := [(0, .ref 2), (1, .int (nI a)), (2, .int (nI k)), (3, .long e)]) (st1 := [.int (((nI n) - (nI k)) + (nI (ed_n e 8)))]) (h1 := (HH (oj_0 1) (oj_1 (((nI n) - (nI k)) + (nI (ed_n e 8)))) (.inl (true, (ed_w e 8 a (am_cp l l (a + k) (a + ed_n e 8) (n - a - k))))) u3 u4 u5 u6 u7 u8 u9 u10 u11 u12 u13 u14 u15 u16 u17 u18 u19 u20 u21 u22 u23 u24 u25 u26 u27 u28 u29 u30 u31 u32 u33 u34 u35 u36 u37 u38 u39 u40 u41 u42 u43 u44 u45 u46 u47 u48 u49 u50 u51 u52 u53)) rfl ?_
      refine am_wr rfl rfl rfl ?_
      rw [ed_ne] at hb1
      rw [ed_full hn (by omega) hn8] at hb2
      exact hQ2 hb1 (of_decide_eq_true hb2)
    | false =>
      refine am_wb2 rfl false hb2 rfl ?_
      refine am_wh 1 (pc1 := 65) (lv1 := [(0, .ref 2), (1, .int (nI a)), (2, .int (nI k)), (3, .long e)]) (st1 := [.int (-2)]) rfl ?_
      refine am_wr rfl rfl rfl ?_
      rw [ed_ne] at hb1
      rw [ed_full hn (by omega) hn8] at hb2
      exact hQ1 hb1 (of_decide_eq_false hb2)
  | false =>
    refine am_wb1 rfl false hb1 rfl ?_
    refine am_wh 1 (pc1 := 42) (lv1 := [(0, .ref 2), (1, .int (nI a)), (2, .int (nI k)), (3, .long e)]) (st1 := [.int (-1)]) rfl ?_
    refine am_wr rfl rfl rfl ?_
    rw [ed_ne] at hb1
    exact hQ0 hb1
set_option maxRecDepth 100000 in
set_option maxHeartbeats 4000000 in
theorem wx_len (xs : Option (List Int32)) (d : Nat) {u3 u4 u5 u6 u7 u8 u9 u10 u11 u12 u13 u14 u15 u16 u17 u18 u19 u20 u21 u22 u23 u24 u25 u26 u27 u28 u29 u30 u31 u32 u33 u34 u35 u36 u37 u38 u39 u40 u41 u42 u43 u44 u45 u46 u47 u48 u49 u50 u51 u52 u53 : am_E} (s n : Int32) (l : List Int32) (Q : Option Value → List am_E → Prop) (hQ : Q (some (.int n)) (HH (oj_0 s) (oj_1 n) (.inl (true, l)) u3 u4 u5 u6 u7 u8 u9 u10 u11 u12 u13 u14 u15 u16 u17 u18 u19 u20 u21 u22 u23 u24 u25 u26 u27 u28 u29 u30 u31 u32 u33 u34 u35 u36 u37 u38 u39 u40 u41 u42 u43 u44 u45 u46 u47 u48 u49 u50 u51 u52 u53)) : am_W (am_CX xs) d 110 0 [(0, .ref 2)] [] (HH (oj_0 s) (oj_1 n) (.inl (true, l)) u3 u4 u5 u6 u7 u8 u9 u10 u11 u12 u13 u14 u15 u16 u17 u18 u19 u20 u21 u22 u23 u24 u25 u26 u27 u28 u29 u30 u31 u32 u33 u34 u35 u36 u37 u38 u39 u40 u41 u42 u43 u44 u45 u46 u47 u48 u49 u50 u51 u52 u53) Q := by
  refine am_wh 3 (pc1 := 7) (lv1 := [(0, .ref 2)]) (st1 := [.int n]) rfl ?_
  refine am_wr rfl rfl rfl ?_
  exact hQ
/-- the character at a place, or -1 -/
def tx_at (t : List Int32) (p : Int32) : Int32 := bif am_if .lt p 0 then -1 else bif am_if .lt p (nI t.length) then t.getD p.toNatClampNeg 0 else -1
theorem tx_atc {t l : List Int32} (ht : tx_in t l) {p : Int32} (h1 : am_if .lt p 0 = false) (h2 : am_if .lt p (nI t.length) = true) : ¬ p < 0 ∧ l[p.toNatClampNeg]? = some (tx_at t p) := by
  have g1 : ¬ p < 0 := of_decide_eq_false h1
  have g2 : p < nI t.length := of_decide_eq_true h2
  obtain ⟨a, ha, rfl⟩ := nI_of g1
  rw [nI_ltI ha (by have := ht.2.1; omega)] at g2
  refine ⟨g1, ?_⟩
  unfold tx_at
  rw [h1, h2, nI_clamp ha, ht.2.2 a g2]
  show t[a]? = some (t.getD a 0)
  rw [List.getD_eq_getElem?_getD, List.getElem?_eq_getElem g2]
  rfl
theorem am_lt1 {x y : Int32} (h : am_if .ge x y = false) : am_if .lt x y = true := by
  have g : ¬ y ≤ x := of_decide_eq_false h
  exact decide_eq_true (Int32.not_le.mp g)
theorem am_lt0 {x y : Int32} (h : am_if .ge x y = true) : am_if .lt x y = false := by
  have g : y ≤ x := of_decide_eq_true h
  exact decide_eq_false (Int32.not_lt.mpr g)
set_option maxRecDepth 100000 in
set_option maxHeartbeats 4000000 in
theorem wx_at (xs : Option (List Int32)) (d : Nat) {u0 u3 u4 u5 u6 u7 u8 u9 u10 u11 u12 u13 u14 u15 u16 u17 u18 u19 u20 u21 u22 u23 u24 u25 u26 u27 u28 u29 u30 u31 u32 u33 u34 u35 u36 u37 u38 u39 u40 u41 u42 u43 u44 u45 u46 u47 u48 u49 u50 u51 u52 u53 : am_E} (t l : List Int32) (ht : tx_in t l) (p : Int32) (Q : Option Value → List am_E → Prop) (hQ : Q (some (.int (tx_at t p))) (HH u0 (oj_1 (nI t.length)) (.inl (true, l)) u3 u4 u5 u6 u7 u8 u9 u10 u11 u12 u13 u14 u15 u16 u17 u18 u19 u20 u21 u22 u23 u24 u25 u26 u27 u28 u29 u30 u31 u32 u33 u34 u35 u36 u37 u38 u39 u40 u41 u42 u43 u44 u45 u46 u47 u48 u49 u50 u51 u52 u53)) : am_W (am_CX xs) d 85 0 [(0, .ref 3), (1, .int p)] [] (HH u0 (oj_1 (nI t.length)) (.inl (true, l)) u3 u4 u5 u6 u7 u8 u9 u10 u11 u12 u13 u14 u15 u16 u17 u18 u19 u20 u21 u22 u23 u24 u25 u26 u27 u28 u29 u30 u31 u32 u33 u34 u35 u36 u37 u38 u39 u40 u41 u42 u43 u44 u45 u46 u47 u48 u49 u50 u51 u52 u53) Q := by
  refine am_wh 1 (pc1 := 1) (lv1 := [(0, .ref 3), (1, .int p)]) (st1 := [.int p]) rfl ?_
  cases hb1 : am_if .lt p 0 with
  | true =>
    refine am_wb1 rfl true hb1 rfl ?_
    refine am_wh 1 (pc1 := 22) (lv1 := [(0, .ref 3), (1, .int p)]) (st1 := [.int (-1)]) rfl ?_
    refine am_wr rfl rfl rfl ?_
    rw [show tx_at t p = -1 by simp [tx_at, hb1]] at hQ
    exact hQ
  | false =>
    refine am_wb1 rfl false hb1 rfl ?_
    refine am_wh 3 (pc1 := 9) (lv1 := [(0, .ref 3), (1, .int p)]) (st1 := [.int (nI t.length), .int p]) rfl ?_
    cases hb2 : am_if .ge p (nI t.length) with
    | true =>
      refine am_wb2 rfl true hb2 rfl ?_
      refine am_wh 1 (pc1 := 22) (lv1 := [(0, .ref 3), (1, .int p)]) (st1 := [.int (-1)]) rfl ?_
      refine am_wr rfl rfl rfl ?_
      rw [show tx_at t p = -1 by simp [tx_at, hb1, am_lt0 hb2]] at hQ
      exact hQ
    | false =>
      refine am_wb2 rfl false hb2 rfl ?_
      refine am_wh 3 (pc1 := 17) (lv1 := [(0, .ref 3), (1, .int p)]) (st1 := [.int p, .ref 4]) rfl ?_
      refine am_wlc (v := (tx_at t p)) rfl rfl ((tx_atc ht hb1 (am_lt1 hb2)).1) ((tx_atc ht hb1 (am_lt1 hb2)).2) ?_
      refine am_wh 1 (pc1 := 22) (lv1 := [(0, .ref 3), (1, .int p)]) (st1 := [.int (tx_at t p)]) rfl ?_
      refine am_wr rfl rfl rfl ?_
      exact hQ
set_option maxRecDepth 100000 in
set_option maxHeartbeats 4000000 in
theorem wx_chr (xs : Option (List Int32)) (d : Nat) {u3 u4 u5 u6 u7 u8 u9 u10 u11 u12 u13 u14 u15 u16 u17 u18 u19 u20 u21 u22 u23 u24 u25 u26 u27 u28 u29 u30 u31 u32 u33 u34 u35 u36 u37 u38 u39 u40 u41 u42 u43 u44 u45 u46 u47 u48 u49 u50 u51 u52 u53 : am_E} (s : Int32) (t l : List Int32) (ht : tx_in t l) (p : Int32) (Q : Option Value → List am_E → Prop) (hQ : Q (some (.int (tx_at t p))) (HH (oj_0 s) (oj_1 (nI t.length)) (.inl (true, l)) u3 u4 u5 u6 u7 u8 u9 u10 u11 u12 u13 u14 u15 u16 u17 u18 u19 u20 u21 u22 u23 u24 u25 u26 u27 u28 u29 u30 u31 u32 u33 u34 u35 u36 u37 u38 u39 u40 u41 u42 u43 u44 u45 u46 u47 u48 u49 u50 u51 u52 u53)) : am_W (am_CX xs) (d + 1) 111 0 [(0, .ref 2), (1, .int p)] [] (HH (oj_0 s) (oj_1 (nI t.length)) (.inl (true, l)) u3 u4 u5 u6 u7 u8 u9 u10 u11 u12 u13 u14 u15 u16 u17 u18 u19 u20 u21 u22 u23 u24 u25 u26 u27 u28 u29 u30 u31 u32 u33 u34 u35 u36 u37 u38 u39 u40 u41 u42 u43 u44 u45 u46 u47 u48 u49 u50 u51 u52 u53) Q := by
  refine am_wh 3 (pc1 := 5) (lv1 := [(0, .ref 2), (1, .int p)]) (st1 := [.int p, .ref 3]) rfl ?_
  refine am_wc rfl rfl rfl ?_
  refine wx_at _ _ t l ht _ _ ?_
  show am_W _ _ 111 8 [(0, .ref 2), (1, .int p)] [.int (tx_at t p)] _ _
  refine am_wr rfl rfl rfl ?_
  exact hQ
end
section
set_option maxRecDepth 100000 in
set_option maxHeartbeats 4000000 in
theorem em_edl (xs : Option (List Int32)) (d : Nat) (p q : Int32) (h : List am_E) (Q : Option Value → List am_E → Prop) (e : Int64) : ∀ m, m ≤ 8 → ∀ (a : Nat) (g : Bool), am_W (am_CX xs) (d + 1) 132 103 [(5, .int (nI (a + ed_n e m))), (6, .int (bif g && ed_al e m then 1 else 0)), (0, .ref 32), (1, .int p), (2, .int q), (3, .long e)] [] h Q → am_W (am_CX xs) (d + 1) 132 40 [(7, .int (ed_k m)), (5, .int (nI a)), (6, .int (bif g then 1 else 0)), (0, .ref 32), (1, .int p), (2, .int q), (3, .long e)] [] h Q := by
  intro m
  induction m with
  | zero =>
    intro _ a g hK
    show am_W _ _ 132 40 [(7, .int (-8)), (5, .int (nI a)), (6, .int (bif g then 1 else 0)), (0, .ref 32), (1, .int p), (2, .int q), (3, .long e)] [] h _
    refine am_wn 2 (pc1 := 103) (lv1 := [(7, .int (-8)), (5, .int (nI a)), (6, .int (bif g then 1 else 0)), (0, .ref 32), (1, .int p), (2, .int q), (3, .long e)]) (st1 := []) (h1 := h) rfl ?_
    rw [show (g && ed_al e 0) = g by cases g <;> rfl] at hK
    exact am_wm hK ⟨rfl, rfl, rfl, rfl, rfl, rfl, trivial⟩
  | succ m ih =>
    intro hm a g hK
    have hm8 : m < 8 := hm
    show am_W _ _ 132 40 [(7, .int (nI (8 * m))), (5, .int (nI a)), (6, .int (bif g then 1 else 0)), (0, .ref 32), (1, .int p), (2, .int q), (3, .long e)] [] h _
    refine am_wn 1 (pc1 := 42) (lv1 := [(7, .int (nI (8 * m))), (5, .int (nI a)), (6, .int (bif g then 1 else 0)), (0, .ref 32), (1, .int p), (2, .int q), (3, .long e)]) (st1 := [.int (nI (8 * m))]) (h1 := h) rfl ?_
    refine am_wb1 rfl false (ed_kp m hm8) rfl ?_
    refine am_wn 8 (pc1 := 58) (lv1 := [(8, .int (ed_b e m)), (7, .int (nI (8 * m))), (5, .int (nI a)), (6, .int (bif g then 1 else 0)), (0, .ref 32), (1, .int p), (2, .int q), (3, .long e)]) (st1 := [.int (bif g then 1 else 0)]) (h1 := h) rfl ?_
    cases hb1 : am_if .eq (bif g then 1 else 0) 0 with
    | true =>
      refine am_wb1 rfl true hb1 rfl ?_
      refine am_wn 3 (pc1 := 83) (lv1 := [(6, .int 0), (8, .int (ed_b e m)), (7, .int (nI (8 * m))), (5, .int (nI a)), (0, .ref 32), (1, .int p), (2, .int q), (3, .long e)]) (st1 := [.int (ed_b e m)]) (h1 := h) rfl ?_
      cases hb2 : am_if .eq (ed_b e m) 0 with
      | true =>
        refine am_wb1 rfl true hb2 rfl ?_
        refine am_wn 4 (pc1 := 40) (lv1 := [(7, .int ((nI (8 * m)) + (-8))), (5, .int (nI a)), (6, .int 0), (8, .int (ed_b e m)), (0, .ref 32), (1, .int p), (2, .int q), (3, .long e)]) (st1 := []) (h1 := h) rfl ?_
        rw [ed_eq] at hb1
        rw [ed_kd m hm8]
        refine am_wl (lv := [(7, .int (ed_k m)), (5, .int (nI a)), (6, .int (bif false then 1 else 0)), (0, .ref 32), (1, .int p), (2, .int q), (3, .long e)]) ⟨rfl, rfl, rfl, rfl, rfl, rfl, rfl, trivial⟩ (ih (Nat.le_of_lt hm8) a false ?_)
        have e1 : (g && ed_al e (m + 1)) = (false && ed_al e m) := by cases g <;> simp_all [ed_al]
        have e2 : a + ed_n e (m + 1) = a + ed_n e m := by simp [ed_n, hb1, hb2]
        rw [e1, e2] at hK
        exact hK
      | false =>
        refine am_wb1 rfl false hb2 rfl ?_
        refine am_wn 7 (pc1 := 40) (lv1 := [(7, .int ((nI (8 * m)) + (-8))), (5, .int ((nI a) + 1)), (6, .int 0), (8, .int (ed_b e m)), (0, .ref 32), (1, .int p), (2, .int q), (3, .long e)]) (st1 := []) (h1 := h) rfl ?_
        rw [ed_eq] at hb1
        rw [ed_kd m hm8, nI_1]
        refine am_wl (lv := [(7, .int (ed_k m)), (5, .int (nI (a + 1))), (6, .int (bif false then 1 else 0)), (0, .ref 32), (1, .int p), (2, .int q), (3, .long e)]) ⟨rfl, rfl, rfl, rfl, rfl, rfl, rfl, trivial⟩ (ih (Nat.le_of_lt hm8) (a + 1) false ?_)
        have e1 : (g && ed_al e (m + 1)) = (false && ed_al e m) := by cases g <;> simp_all [ed_al]
        have e2 : a + ed_n e (m + 1) = (a + 1) + ed_n e m := by simp [ed_n, hb1, hb2]; omega
        rw [e1, e2] at hK
        exact hK
    | false =>
      refine am_wb1 rfl false hb1 rfl ?_
      refine am_wn 1 (pc1 := 63) (lv1 := [(8, .int (ed_b e m)), (7, .int (nI (8 * m))), (5, .int (nI a)), (6, .int (bif g then 1 else 0)), (0, .ref 32), (1, .int p), (2, .int q), (3, .long e)]) (st1 := [.int (ed_b e m)]) (h1 := h) rfl ?_
      cases hb3 : am_if .eq (ed_b e m) 0 with
      | true =>
        refine am_wb1 rfl true hb3 rfl ?_
        refine am_wn 4 (pc1 := 83) (lv1 := [(6, .int 1), (8, .int (ed_b e m)), (7, .int (nI (8 * m))), (5, .int (nI a)), (0, .ref 32), (1, .int p), (2, .int q), (3, .long e)]) (st1 := [.int (ed_b e m)]) (h1 := h) rfl ?_
        refine am_wb1 rfl true (hb3) rfl ?_
        refine am_wn 4 (pc1 := 40) (lv1 := [(7, .int ((nI (8 * m)) + (-8))), (5, .int (nI a)), (6, .int 1), (8, .int (ed_b e m)), (0, .ref 32), (1, .int p), (2, .int q), (3, .long e)]) (st1 := []) (h1 := h) rfl ?_
        rw [ed_eq] at hb1
        rw [ed_kd m hm8]
        refine am_wl (lv := [(7, .int (ed_k m)), (5, .int (nI a)), (6, .int (bif true then 1 else 0)), (0, .ref 32), (1, .int p), (2, .int q), (3, .long e)]) ⟨rfl, rfl, rfl, rfl, rfl, rfl, rfl, trivial⟩ (ih (Nat.le_of_lt hm8) a true ?_)
        have e1 : (g && ed_al e (m + 1)) = (true && ed_al e m) := by cases g <;> simp_all [ed_al]
        have e2 : a + ed_n e (m + 1) = a + ed_n e m := by simp [ed_n, hb1, hb3]
        rw [e1, e2] at hK
        exact hK
      | false =>
        refine am_wb1 rfl false hb3 rfl ?_
        refine am_wn 1 (pc1 := 68) (lv1 := [(8, .int (ed_b e m)), (7, .int (nI (8 * m))), (5, .int (nI a)), (6, .int (bif g then 1 else 0)), (0, .ref 32), (1, .int p), (2, .int q), (3, .long e)]) (st1 := [.int (ed_b e m)]) (h1 := h) rfl ?_
        refine am_wc rfl rfl rfl ?_
        refine ec_ism _ _ _ _ _ ?_
        show am_W _ _ 132 71 [(8, .int (ed_b e m)), (7, .int (nI (8 * m))), (5, .int (nI a)), (6, .int (bif g then 1 else 0)), (0, .ref 32), (1, .int p), (2, .int q), (3, .long e)] [.int (bif ed_ok (ed_b e m) then 1 else 0)] h _
        cases hb4 : am_if .eq (bif ed_ok (ed_b e m) then 1 else 0) 0 with
        | true =>
          refine am_wb1 rfl true hb4 rfl ?_
          refine am_wn 3 (pc1 := 83) (lv1 := [(6, .int 0), (8, .int (ed_b e m)), (7, .int (nI (8 * m))), (5, .int (nI a)), (0, .ref 32), (1, .int p), (2, .int q), (3, .long e)]) (st1 := [.int (ed_b e m)]) (h1 := h) rfl ?_
          refine am_wb1 rfl false (hb3) rfl ?_
          refine am_wn 7 (pc1 := 40) (lv1 := [(7, .int ((nI (8 * m)) + (-8))), (5, .int ((nI a) + 1)), (6, .int 0), (8, .int (ed_b e m)), (0, .ref 32), (1, .int p), (2, .int q), (3, .long e)]) (st1 := []) (h1 := h) rfl ?_
          rw [ed_eq] at hb1
          rw [ed_eq] at hb4
          rw [ed_kd m hm8, nI_1]
          refine am_wl (lv := [(7, .int (ed_k m)), (5, .int (nI (a + 1))), (6, .int (bif false then 1 else 0)), (0, .ref 32), (1, .int p), (2, .int q), (3, .long e)]) ⟨rfl, rfl, rfl, rfl, rfl, rfl, rfl, trivial⟩ (ih (Nat.le_of_lt hm8) (a + 1) false ?_)
          have e1 : (g && ed_al e (m + 1)) = (false && ed_al e m) := by cases g <;> simp_all [ed_al]
          have e2 : a + ed_n e (m + 1) = (a + 1) + ed_n e m := by simp [ed_n, hb1, hb3, hb4]; omega
          rw [e1, e2] at hK
          exact hK
        | false =>
          refine am_wb1 rfl false hb4 rfl ?_
          refine am_wn 4 (pc1 := 83) (lv1 := [(6, .int 1), (8, .int (ed_b e m)), (7, .int (nI (8 * m))), (5, .int (nI a)), (0, .ref 32), (1, .int p), (2, .int q), (3, .long e)]) (st1 := [.int (ed_b e m)]) (h1 := h) rfl ?_
          refine am_wb1 rfl false (hb3) rfl ?_
          refine am_wn 7 (pc1 := 40) (lv1 := [(7, .int ((nI (8 * m)) + (-8))), (5, .int ((nI a) + 1)), (6, .int 1), (8, .int (ed_b e m)), (0, .ref 32), (1, .int p), (2, .int q), (3, .long e)]) (st1 := []) (h1 := h) rfl ?_
          rw [ed_eq] at hb1
          rw [ed_eq] at hb4
          rw [ed_kd m hm8, nI_1]
          refine am_wl (lv := [(7, .int (ed_k m)), (5, .int (nI (a + 1))), (6, .int (bif true then 1 else 0)), (0, .ref 32), (1, .int p), (2, .int q), (3, .long e)]) ⟨rfl, rfl, rfl, rfl, rfl, rfl, rfl, trivial⟩ (ih (Nat.le_of_lt hm8) (a + 1) true ?_)
          have e1 : (g && ed_al e (m + 1)) = (true && ed_al e m) := by cases g <;> simp_all [ed_al]
          have e2 : a + ed_n e (m + 1) = (a + 1) + ed_n e m := by simp [ed_n, hb1, hb3, hb4]; omega
          rw [e1, e2] at hK
          exact hK
/-! The reference's replace: the tail is copied out, laid back at its new place, the eight are laid. -/
def md_c : Nat → Nat → List Int32 → List Int32 → List Int32
  | 0, _, _, kp => kp
  | c + 1, q, s, kp => md_c c (q + 1) s (kp.set q (s.getD q 0))
def md_s (k m : Nat) : Nat → Nat → List Int32 → List Int32 → List Int32
  | 0, _, _, s => s
  | c + 1, q, kp, s => md_s k m c (q + 1) kp (s.set (q - k + m) (kp.getD q 0))
theorem md_c_len : ∀ (c q : Nat) (s kp : List Int32), (md_c c q s kp).length = kp.length := by
  intro c
  induction c with
  | zero => intro q s kp; rfl
  | succ c ih => intro q s kp; show (md_c c (q + 1) s (kp.set q (s.getD q 0))).length = _; rw [ih, List.length_set]
theorem md_s_len (k m : Nat) : ∀ (c q : Nat) (kp s : List Int32), (md_s k m c q kp s).length = s.length := by
  intro c
  induction c with
  | zero => intro q kp s; rfl
  | succ c ih => intro q kp s; show (md_s k m c (q + 1) kp (s.set (q - k + m) (kp.getD q 0))).length = _; rw [ih, List.length_set]
theorem md_gd {s : List Int32} {q : Nat} (h : q < s.length) : some (s.getD q 0) = s[q]? := by
  rw [List.getD_eq_getElem?_getD, List.getElem?_eq_getElem h]
  rfl
theorem md_c_get : ∀ (c q : Nat) (s kp : List Int32), q + c ≤ s.length → q + c ≤ kp.length → ∀ j : Nat, (md_c c q s kp)[j]? = if q ≤ j ∧ j < q + c then s[j]? else kp[j]? := by
  intro c
  induction c with
  | zero => intro q s kp _ _ j; rw [if_neg (by omega)]; rfl
  | succ c ih =>
    intro q s kp h1 h2 j
    show (md_c c (q + 1) s (kp.set q (s.getD q 0)))[j]? = _
    rw [ih (q + 1) s _ (by omega) (by rw [List.length_set]; omega) j]
    by_cases hj : j = q
    · subst hj
      rw [if_neg (by omega), if_pos (by omega), List.getElem?_set_self (by omega)]
      exact md_gd (by omega)
    · rw [List.getElem?_set_ne (fun z => hj z.symm)]
      by_cases h3 : q + 1 ≤ j ∧ j < q + 1 + c
      · rw [if_pos h3, if_pos (by omega)]
      · rw [if_neg h3, if_neg (by omega)]
theorem md_s_get (k m : Nat) : ∀ (c q : Nat) (kp s : List Int32), k ≤ q → q + c ≤ kp.length → q - k + m + c ≤ s.length → ∀ j : Nat, (md_s k m c q kp s)[j]? = if q - k + m ≤ j ∧ j < q - k + m + c then kp[j + k - m]? else s[j]? := by
  intro c
  induction c with
  | zero => intro q kp s _ _ _ j; rw [if_neg (by omega)]; rfl
  | succ c ih =>
    intro q kp s h0 h1 h2 j
    show (md_s k m c (q + 1) kp (s.set (q - k + m) (kp.getD q 0)))[j]? = _
    rw [ih (q + 1) kp _ (by omega) (by omega) (by rw [List.length_set]; omega) j]
    by_cases hj : j = q - k + m
    · subst hj
      rw [if_neg (by omega), if_pos (by omega), List.getElem?_set_self (by omega)]
      have e : q - k + m + k - m = q := by omega
      rw [e]
      exact md_gd (by omega)
    · rw [List.getElem?_set_ne (fun z => hj z.symm)]
      by_cases h3 : q + 1 - k + m ≤ j ∧ j < q + 1 - k + m + c
      · rw [if_pos h3, if_pos (by omega)]
      · rw [if_neg h3, if_neg (by omega)]
/-- what the text's array is then -/
def md_r (e : Int64) (n a k : Nat) (s kp : List Int32) : List Int32 := ed_w e 8 a (md_s k (ed_n e 8) (n - a - k) (a + k) (md_c (n - a - k) (a + k) s kp) s)
theorem tx_repm {t s kp : List Int32} {a k : Nat} {e : Int64} (ht : tx_in t s) (hk : kp.length = 200) (h : a + k ≤ t.length) (h2 : t.length - k + ed_n e 8 ≤ 200) : tx_in (tx_new t a k e) (md_r e t.length a k s kp) := by
  obtain ⟨h3, h4, h5⟩ := ht
  unfold md_r
  have lc : (md_c (t.length - a - k) (a + k) s kp).length = 200 := by rw [md_c_len, hk]
  have ls : (md_s k (ed_n e 8) (t.length - a - k) (a + k) (md_c (t.length - a - k) (a + k) s kp) s).length = 200 := by rw [md_s_len, h3]
  refine ⟨by rw [ed_w_len, ls], by rw [tx_new_len h]; exact h2, fun j hj => ?_⟩
  rw [tx_new_len h] at hj
  rw [ed_w_get e 8 a _ (by rw [ls]; omega), tx_new_get h]
  by_cases g1 : j < a
  · rw [if_neg (by omega), if_pos g1, md_s_get k _ _ _ _ _ (by omega) (by rw [lc]; omega) (by rw [h3]; omega), if_neg (by omega)]
    exact h5 j (by omega)
  · rw [if_neg g1]
    by_cases g2 : j < a + ed_n e 8
    · rw [if_pos (by omega), if_pos g2]
    · rw [if_neg (by omega), if_neg g2, md_s_get k _ _ _ _ _ (by omega) (by rw [lc]; omega) (by rw [h3]; omega), if_pos (by omega), md_c_get _ _ _ _ (by rw [h3]; omega) (by rw [hk]; omega), if_pos (by omega)]
      have e1 : j + k - ed_n e 8 = j - ed_n e 8 + k := by omega
      rw [e1]
      exact h5 _ (by omega)
set_option maxRecDepth 100000 in
set_option maxHeartbeats 4000000 in
theorem wm_rp1 (xs : Option (List Int32)) (d n a k m : Nat) {u0 u1 u2 u3 u4 u5 u6 u7 u8 u9 u10 u11 u12 u13 u14 u15 u16 u17 u18 u19 u20 u21 u22 u23 u24 u25 u26 u27 u28 u29 u33 u34 u35 u36 u37 u38 u39 u40 u41 u42 u43 u44 u45 u46 u47 u48 u49 u50 u51 u52 u53 : am_E} {mo_tokenCount mo_at mo_depth mo_height mo_last mo_fault mo_faultAt mo_extents mo_scopeCount mo_nameCount mo_errorAt mo_error : Int32} {st : Int32} (e : Int64) (Q : Option Value → List am_E → Prop) (s : List Int32) (hs : s.length = 200) (hn : n ≤ 200) : ∀ (c q : Nat) (kp : List Int32), q + c = n → kp.length = 200 → am_W (am_CX xs) d 133 34 [(0, .ref 32), (1, .int (nI a)), (2, .int (nI k)), (3, .int (nI m)), (4, .long e)] [] (HH u0 u1 u2 u3 u4 u5 u6 u7 u8 u9 u10 u11 u12 u13 u14 u15 u16 u17 u18 u19 u20 u21 u22 u23 u24 u25 u26 u27 u28 u29 (oj_9 (nI n) st mo_tokenCount mo_at mo_depth mo_height mo_last mo_fault mo_faultAt mo_extents mo_scopeCount mo_nameCount mo_errorAt mo_error) (.inl (false, s)) (.inl (false, (md_c c q s kp))) u33 u34 u35 u36 u37 u38 u39 u40 u41 u42 u43 u44 u45 u46 u47 u48 u49 u50 u51 u52 u53) Q → am_W (am_CX xs) d 133 5 [(6, .int (nI q)), (0, .ref 32), (1, .int (nI a)), (2, .int (nI k)), (3, .int (nI m)), (4, .long e)] [] (HH u0 u1 u2 u3 u4 u5 u6 u7 u8 u9 u10 u11 u12 u13 u14 u15 u16 u17 u18 u19 u20 u21 u22 u23 u24 u25 u26 u27 u28 u29 (oj_9 (nI n) st mo_tokenCount mo_at mo_depth mo_height mo_last mo_fault mo_faultAt mo_extents mo_scopeCount mo_nameCount mo_errorAt mo_error) (.inl (false, s)) (.inl (false, kp)) u33 u34 u35 u36 u37 u38 u39 u40 u41 u42 u43 u44 u45 u46 u47 u48 u49 u50 u51 u52 u53) Q := by
  intro c
  induction c with
  | zero =>
    intro q kp hq hkp hK
    refine am_wh 3 (pc1 := 11) (lv1 := [(6, .int (nI q)), (0, .ref 32), (1, .int (nI a)), (2, .int (nI k)), (3, .int (nI m)), (4, .long e)]) (st1 := [.int (nI n), .int (nI q)]) rfl ?_
    refine am_wb2 rfl true (show am_if .ge (nI q) (nI n) = true from decide_eq_true (by rw [nI_leI (by omega) (by omega)]; omega)) rfl ?_
    exact am_wm hK ⟨rfl, rfl, rfl, rfl, rfl, trivial⟩
  | succ c ih =>
    intro q kp hq hkp hK
    refine am_wh 3 (pc1 := 11) (lv1 := [(6, .int (nI q)), (0, .ref 32), (1, .int (nI a)), (2, .int (nI k)), (3, .int (nI m)), (4, .long e)]) (st1 := [.int (nI n), .int (nI q)]) rfl ?_
    refine am_wb2 rfl false (show am_if .ge (nI q) (nI n) = false from decide_eq_false (by rw [nI_leI (by omega) (by omega)]; omega)) rfl ?_
    refine am_wh 6 (pc1 := 26) (lv1 := [(6, .int (nI q)), (0, .ref 32), (1, .int (nI a)), (2, .int (nI k)), (3, .int (nI m)), (4, .long e)]) (st1 := [.int (nI q), .ref 33, .int (nI q), .ref 34]) rfl ?_
    refine am_wliE (i := q) rfl rfl (rfl) (by omega) (by omega) ?_
    refine am_wsiE (i := q) (h1 := (HH u0 u1 u2 u3 u4 u5 u6 u7 u8 u9 u10 u11 u12 u13 u14 u15 u16 u17 u18 u19 u20 u21 u22 u23 u24 u25 u26 u27 u28 u29 (oj_9 (nI n) st mo_tokenCount mo_at mo_depth mo_height mo_last mo_fault mo_faultAt mo_extents mo_scopeCount mo_nameCount mo_errorAt mo_error) (.inl (false, s)) (.inl (false, (kp.set q (s.getD q 0)))) u33 u34 u35 u36 u37 u38 u39 u40 u41 u42 u43 u44 u45 u46 u47 u48 u49 u50 u51 u52 u53)) rfl rfl (rfl) (by omega) (by omega) (rfl) ?_
    refine am_wh 2 (pc1 := 5) (lv1 := [(6, .int ((nI q) + 1)), (0, .ref 32), (1, .int (nI a)), (2, .int (nI k)), (3, .int (nI m)), (4, .long e)]) (st1 := []) rfl ?_
    rw [nI_1]
    exact ih (q + 1) _ (by omega) (by rw [List.length_set]; exact hkp) hK
set_option maxRecDepth 100000 in
set_option maxHeartbeats 4000000 in
theorem wm_rp2 (xs : Option (List Int32)) (d n a k m : Nat) {u0 u1 u2 u3 u4 u5 u6 u7 u8 u9 u10 u11 u12 u13 u14 u15 u16 u17 u18 u19 u20 u21 u22 u23 u24 u25 u26 u27 u28 u29 u33 u34 u35 u36 u37 u38 u39 u40 u41 u42 u43 u44 u45 u46 u47 u48 u49 u50 u51 u52 u53 : am_E} {mo_tokenCount mo_at mo_depth mo_height mo_last mo_fault mo_faultAt mo_extents mo_scopeCount mo_nameCount mo_errorAt mo_error : Int32} {st : Int32} (e : Int64) (Q : Option Value → List am_E → Prop) (kp : List Int32) (hkp : kp.length = 200) (hn : n ≤ 200) : ∀ (c q : Nat) (s : List Int32), q + c = n → k ≤ q → s.length = 200 → n - k + m ≤ 200 → am_W (am_CX xs) d 133 72 [(0, .ref 32), (1, .int (nI a)), (2, .int (nI k)), (3, .int (nI m)), (4, .long e)] [] (HH u0 u1 u2 u3 u4 u5 u6 u7 u8 u9 u10 u11 u12 u13 u14 u15 u16 u17 u18 u19 u20 u21 u22 u23 u24 u25 u26 u27 u28 u29 (oj_9 (nI n) st mo_tokenCount mo_at mo_depth mo_height mo_last mo_fault mo_faultAt mo_extents mo_scopeCount mo_nameCount mo_errorAt mo_error) (.inl (false, (md_s k m c q kp s))) (.inl (false, kp)) u33 u34 u35 u36 u37 u38 u39 u40 u41 u42 u43 u44 u45 u46 u47 u48 u49 u50 u51 u52 u53) Q → am_W (am_CX xs) d 133 39 [(6, .int (nI q)), (0, .ref 32), (1, .int (nI a)), (2, .int (nI k)), (3, .int (nI m)), (4, .long e)] [] (HH u0 u1 u2 u3 u4 u5 u6 u7 u8 u9 u10 u11 u12 u13 u14 u15 u16 u17 u18 u19 u20 u21 u22 u23 u24 u25 u26 u27 u28 u29 (oj_9 (nI n) st mo_tokenCount mo_at mo_depth mo_height mo_last mo_fault mo_faultAt mo_extents mo_scopeCount mo_nameCount mo_errorAt mo_error) (.inl (false, s)) (.inl (false, kp)) u33 u34 u35 u36 u37 u38 u39 u40 u41 u42 u43 u44 u45 u46 u47 u48 u49 u50 u51 u52 u53) Q := by
  intro c
  induction c with
  | zero =>
    intro q s hq hkq hs hm hK
    refine am_wh 3 (pc1 := 45) (lv1 := [(6, .int (nI q)), (0, .ref 32), (1, .int (nI a)), (2, .int (nI k)), (3, .int (nI m)), (4, .long e)]) (st1 := [.int (nI n), .int (nI q)]) rfl ?_
    refine am_wb2 rfl true (show am_if .ge (nI q) (nI n) = true from decide_eq_true (by rw [nI_leI (by omega) (by omega)]; omega)) rfl ?_
    exact am_wm hK ⟨rfl, rfl, rfl, rfl, rfl, trivial⟩
  | succ c ih =>
    intro q s hq hkq hs hm hK
    refine am_wh 3 (pc1 := 45) (lv1 := [(6, .int (nI q)), (0, .ref 32), (1, .int (nI a)), (2, .int (nI k)), (3, .int (nI m)), (4, .long e)]) (st1 := [.int (nI n), .int (nI q)]) rfl ?_
    refine am_wb2 rfl false (show am_if .ge (nI q) (nI n) = false from decide_eq_false (by rw [nI_leI (by omega) (by omega)]; omega)) rfl ?_
    refine am_wh 10 (pc1 := 64) (lv1 := [(6, .int (nI q)), (0, .ref 32), (1, .int (nI a)), (2, .int (nI k)), (3, .int (nI m)), (4, .long e)]) (st1 := [.int (nI q), .ref 34, .int (((nI q) - (nI k)) + (nI m)), .ref 33]) rfl ?_
    refine am_wliE (i := q) rfl rfl (rfl) (by omega) (by omega) ?_
    refine am_wsiE (i := (q - k + m)) (h1 := (HH u0 u1 u2 u3 u4 u5 u6 u7 u8 u9 u10 u11 u12 u13 u14 u15 u16 u17 u18 u19 u20 u21 u22 u23 u24 u25 u26 u27 u28 u29 (oj_9 (nI n) st mo_tokenCount mo_at mo_depth mo_height mo_last mo_fault mo_faultAt mo_extents mo_scopeCount mo_nameCount mo_errorAt mo_error) (.inl (false, (s.set (q - k + m) (kp.getD q 0)))) (.inl (false, kp)) u33 u34 u35 u36 u37 u38 u39 u40 u41 u42 u43 u44 u45 u46 u47 u48 u49 u50 u51 u52 u53)) rfl rfl (by rw [pk_sub (by omega), nI_add]) (by omega) (by omega) (rfl) ?_
    refine am_wh 2 (pc1 := 39) (lv1 := [(6, .int ((nI q) + 1)), (0, .ref 32), (1, .int (nI a)), (2, .int (nI k)), (3, .int (nI m)), (4, .long e)]) (st1 := []) rfl ?_
    rw [nI_1]
    exact ih (q + 1) _ (by omega) (by omega) (by rw [List.length_set]; exact hs) (by omega) hK
set_option maxRecDepth 100000 in
set_option maxHeartbeats 4000000 in
theorem wm_rp3 (xs : Option (List Int32)) (d : Nat) {u0 u1 u2 u3 u4 u5 u6 u7 u8 u9 u10 u11 u12 u13 u14 u15 u16 u17 u18 u19 u20 u21 u22 u23 u24 u25 u26 u27 u28 u29 u33 u34 u35 u36 u37 u38 u39 u40 u41 u42 u43 u44 u45 u46 u47 u48 u49 u50 u51 u52 u53 : am_E} {mo_tokenCount mo_at mo_depth mo_height mo_last mo_fault mo_faultAt mo_extents mo_scopeCount mo_nameCount mo_errorAt mo_error : Int32} {n st : Int32} {kp : List Int32} (e : Int64) (Q : Option Value → List am_E → Prop) : ∀ m, m ≤ 8 → ∀ (q : Nat) (s : List Int32), q + ed_n e m ≤ 200 → s.length = 200 → Q none (HH u0 u1 u2 u3 u4 u5 u6 u7 u8 u9 u10 u11 u12 u13 u14 u15 u16 u17 u18 u19 u20 u21 u22 u23 u24 u25 u26 u27 u28 u29 (oj_9 n 1 mo_tokenCount mo_at mo_depth mo_height mo_last mo_fault mo_faultAt mo_extents mo_scopeCount mo_nameCount mo_errorAt mo_error) (.inl (false, (ed_w e m q s))) (.inl (false, kp)) u33 u34 u35 u36 u37 u38 u39 u40 u41 u42 u43 u44 u45 u46 u47 u48 u49 u50 u51 u52 u53) → am_W (am_CX xs) d 133 91 [(7, .int (ed_k m)), (6, .int (nI q)), (0, .ref 32), (4, .long e)] [] (HH u0 u1 u2 u3 u4 u5 u6 u7 u8 u9 u10 u11 u12 u13 u14 u15 u16 u17 u18 u19 u20 u21 u22 u23 u24 u25 u26 u27 u28 u29 (oj_9 n st mo_tokenCount mo_at mo_depth mo_height mo_last mo_fault mo_faultAt mo_extents mo_scopeCount mo_nameCount mo_errorAt mo_error) (.inl (false, s)) (.inl (false, kp)) u33 u34 u35 u36 u37 u38 u39 u40 u41 u42 u43 u44 u45 u46 u47 u48 u49 u50 u51 u52 u53) Q := by
  intro m
  induction m with
  | zero =>
    intro _ q s _ hs hQ
    show am_W _ _ 133 91 [(7, .int (-8)), (6, .int (nI q)), (0, .ref 32), (4, .long e)] [] _ _
    refine am_wn 5 (pc1 := 136) (lv1 := [(7, .int (-8)), (6, .int (nI q)), (0, .ref 32), (4, .long e)]) (st1 := []) (h1 := (HH u0 u1 u2 u3 u4 u5 u6 u7 u8 u9 u10 u11 u12 u13 u14 u15 u16 u17 u18 u19 u20 u21 u22 u23 u24 u25 u26 u27 u28 u29 (oj_9 n 1 mo_tokenCount mo_at mo_depth mo_height mo_last mo_fault mo_faultAt mo_extents mo_scopeCount mo_nameCount mo_errorAt mo_error) (.inl (false, s)) (.inl (false, kp)) u33 u34 u35 u36 u37 u38 u39 u40 u41 u42 u43 u44 u45 u46 u47 u48 u49 u50 u51 u52 u53)) rfl ?_
    refine am_wr rfl rfl rfl ?_
    exact hQ
  | succ m ih =>
    intro hm q s hq hs hQ
    have hm8 : m < 8 := hm
    show am_W _ _ 133 91 [(7, .int (nI (8 * m))), (6, .int (nI q)), (0, .ref 32), (4, .long e)] [] _ _
    refine am_wh 1 (pc1 := 93) (lv1 := [(7, .int (nI (8 * m))), (6, .int (nI q)), (0, .ref 32), (4, .long e)]) (st1 := [.int (nI (8 * m))]) rfl ?_
    refine am_wb1 rfl false (ed_kp m hm8) rfl ?_
    refine am_wh 8 (pc1 := 110) (lv1 := [(8, .int (ed_b e m)), (7, .int (nI (8 * m))), (6, .int (nI q)), (0, .ref 32), (4, .long e)]) (st1 := [.int (ed_b e m)]) rfl ?_
    cases hb1 : am_if .eq (ed_b e m) 0 with
    | true =>
      have hw : ed_w e (m + 1) q s = ed_w e m q s := by show (bif am_if .eq (ed_b e m) 0 then _ else _) = _; rw [hb1]; rfl
      have hn : ed_n e (m + 1) = ed_n e m := by show (bif am_if .eq (ed_b e m) 0 then 0 else 1) + _ = _; rw [hb1]; exact Nat.zero_add _
      refine am_wb1 rfl true hb1 rfl ?_
      refine am_wh 2 (pc1 := 91) (lv1 := [(7, .int ((nI (8 * m)) + (-8))), (8, .int (ed_b e m)), (6, .int (nI q)), (0, .ref 32), (4, .long e)]) (st1 := []) rfl ?_
      rw [ed_kd m hm8]
      exact am_wm (ih (Nat.le_of_lt hm8) q s (by omega) hs (by rw [hw] at hQ; exact hQ)) ⟨rfl, rfl, rfl, rfl, trivial⟩
    | false =>
      have hw : ed_w e (m + 1) q s = ed_w e m (q + 1) (s.set q (ed_b e m)) := by show (bif am_if .eq (ed_b e m) 0 then _ else _) = _; rw [hb1]; rfl
      have hn : ed_n e (m + 1) = 1 + ed_n e m := by show (bif am_if .eq (ed_b e m) 0 then 0 else 1) + _ = _; rw [hb1]; rfl
      refine am_wb1 rfl false hb1 rfl ?_
      refine am_wh 4 (pc1 := 121) (lv1 := [(8, .int (ed_b e m)), (7, .int (nI (8 * m))), (6, .int (nI q)), (0, .ref 32), (4, .long e)]) (st1 := [.int (ed_b e m), .int (nI q), .ref 33]) rfl ?_
      refine am_wsiE (i := q) (h1 := (HH u0 u1 u2 u3 u4 u5 u6 u7 u8 u9 u10 u11 u12 u13 u14 u15 u16 u17 u18 u19 u20 u21 u22 u23 u24 u25 u26 u27 u28 u29 (oj_9 n st mo_tokenCount mo_at mo_depth mo_height mo_last mo_fault mo_faultAt mo_extents mo_scopeCount mo_nameCount mo_errorAt mo_error) (.inl (false, (s.set q (ed_b e m)))) (.inl (false, kp)) u33 u34 u35 u36 u37 u38 u39 u40 u41 u42 u43 u44 u45 u46 u47 u48 u49 u50 u51 u52 u53)) rfl rfl (rfl) (by omega) (by omega) (rfl) ?_
      refine am_wh 3 (pc1 := 91) (lv1 := [(7, .int ((nI (8 * m)) + (-8))), (6, .int ((nI q) + 1)), (8, .int (ed_b e m)), (0, .ref 32), (4, .long e)]) (st1 := []) rfl ?_
      rw [ed_kd m hm8, nI_1]
      exact am_wm (ih (Nat.le_of_lt hm8) (q + 1) _ (by omega) (by rw [List.length_set]; exact hs) (by rw [hw] at hQ; exact hQ)) ⟨rfl, rfl, rfl, rfl, trivial⟩
set_option maxRecDepth 100000 in
set_option maxHeartbeats 4000000 in
theorem wm_rep (xs : Option (List Int32)) (d n a k : Nat) {u0 u1 u2 u3 u4 u5 u6 u7 u8 u9 u10 u11 u12 u13 u14 u15 u16 u17 u18 u19 u20 u21 u22 u23 u24 u25 u26 u27 u28 u29 u33 u34 u35 u36 u37 u38 u39 u40 u41 u42 u43 u44 u45 u46 u47 u48 u49 u50 u51 u52 u53 : am_E} {mo_tokenCount mo_at mo_depth mo_height mo_last mo_fault mo_faultAt mo_extents mo_scopeCount mo_nameCount mo_errorAt mo_error : Int32} {st : Int32} (e : Int64) (Q : Option Value → List am_E → Prop) (s kp : List Int32) (hs : s.length = 200) (hkp : kp.length = 200) (h1 : a + k ≤ n) (hn : n ≤ 200) (h3 : n - k + ed_n e 8 ≤ 200) (hQ : Q none (HH u0 u1 u2 u3 u4 u5 u6 u7 u8 u9 u10 u11 u12 u13 u14 u15 u16 u17 u18 u19 u20 u21 u22 u23 u24 u25 u26 u27 u28 u29 (oj_9 (((nI n) - (nI k)) + (nI (ed_n e 8))) 1 mo_tokenCount mo_at mo_depth mo_height mo_last mo_fault mo_faultAt mo_extents mo_scopeCount mo_nameCount mo_errorAt mo_error) (.inl (false, (md_r e n a k s kp))) (.inl (false, (md_c (n - a - k) (a + k) s kp))) u33 u34 u35 u36 u37 u38 u39 u40 u41 u42 u43 u44 u45 u46 u47 u48 u49 u50 u51 u52 u53)) : am_W (am_CX xs) d 133 0 [(0, .ref 32), (1, .int (nI a)), (2, .int (nI k)), (3, .int (nI (ed_n e 8))), (4, .long e)] [] (HH u0 u1 u2 u3 u4 u5 u6 u7 u8 u9 u10 u11 u12 u13 u14 u15 u16 u17 u18 u19 u20 u21 u22 u23 u24 u25 u26 u27 u28 u29 (oj_9 (nI n) st mo_tokenCount mo_at mo_depth mo_height mo_last mo_fault mo_faultAt mo_extents mo_scopeCount mo_nameCount mo_errorAt mo_error) (.inl (false, s)) (.inl (false, kp)) u33 u34 u35 u36 u37 u38 u39 u40 u41 u42 u43 u44 u45 u46 u47 u48 u49 u50 u51 u52 u53) Q := by
  have hn8 : ed_n e 8 ≤ 8 := ed_n_le e 8
  refine am_wh 4 (pc1 := 5) (lv1 := [(6, .int ((nI a) + (nI k))), (0, .ref 32), (1, .int (nI a)), (2, .int (nI k)), (3, .int (nI (ed_n e 8))), (4, .long e)]) (st1 := []) rfl ?_
  rw [nI_add a k]
  refine wm_rp1 xs d n a k (ed_n e 8) e Q s hs hn (n - a - k) (a + k) kp (by omega) hkp ?_
  refine am_wh 4 (pc1 := 39) (lv1 := [(6, .int ((nI a) + (nI k))), (0, .ref 32), (1, .int (nI a)), (2, .int (nI k)), (3, .int (nI (ed_n e 8))), (4, .long e)]) (st1 := []) rfl ?_
  rw [nI_add a k]
  refine wm_rp2 xs d n a k (ed_n e 8) e Q _ (by rw [md_c_len]; exact hkp) hn (n - a - k) (a + k) s (by omega) (by omega) hs h3 ?_
  refine am_wn 12 (pc1 := 91) (lv1 := [(7, .int 56), (6, .int (nI a)), (0, .ref 32), (1, .int (nI a)), (2, .int (nI k)), (3, .int (nI (ed_n e 8))), (4, .long e)]) (st1 := []) (h1 := (HH u0 u1 u2 u3 u4 u5 u6 u7 u8 u9 u10 u11 u12 u13 u14 u15 u16 u17 u18 u19 u20 u21 u22 u23 u24 u25 u26 u27 u28 u29 (oj_9 (((nI n) - (nI k)) + (nI (ed_n e 8))) st mo_tokenCount mo_at mo_depth mo_height mo_last mo_fault mo_faultAt mo_extents mo_scopeCount mo_nameCount mo_errorAt mo_error) (.inl (false, (md_s k (ed_n e 8) (n - a - k) (a + k) (md_c (n - a - k) (a + k) s kp) s))) (.inl (false, (md_c (n - a - k) (a + k) s kp))) u33 u34 u35 u36 u37 u38 u39 u40 u41 u42 u43 u44 u45 u46 u47 u48 u49 u50 u51 u52 u53)) rfl ?_
  exact am_wm (wm_rp3 xs d e Q 8 (Nat.le_refl 8) a _ (by omega) (by rw [md_s_len]; exact hs) hQ) ⟨rfl, rfl, rfl, rfl, trivial⟩
end
section
theorem am_le1 {x y : Int32} (h : am_if .gt x y = false) : am_if .le x y = true := by
  have g : ¬ y < x := of_decide_eq_false h
  exact decide_eq_true (Int32.not_lt.mp g)
set_option maxRecDepth 100000 in
set_option maxHeartbeats 4000000 in
theorem wm_edn (xs : Option (List Int32)) (d n : Nat) {u0 u1 u2 u3 u4 u5 u6 u7 u8 u9 u10 u11 u12 u13 u14 u15 u16 u17 u18 u19 u20 u21 u22 u23 u24 u25 u26 u27 u28 u29 u33 u34 u35 u36 u37 u38 u39 u40 u41 u42 u43 u44 u45 u46 u47 u48 u49 u50 u51 u52 u53 : am_E} {mo_tokenCount mo_at mo_depth mo_height mo_last mo_fault mo_faultAt mo_extents mo_scopeCount mo_nameCount mo_errorAt mo_error : Int32} {st : Int32} {s kp : List Int32} (p q : Int32) (e : Int64) (Q : Option Value → List am_E → Prop) (hn : n ≤ 200) (hpl : ¬ ∃ a k : Nat, p = nI a ∧ q = nI k ∧ a + k ≤ n) (hQ : Q (some (.int (-1))) (HH u0 u1 u2 u3 u4 u5 u6 u7 u8 u9 u10 u11 u12 u13 u14 u15 u16 u17 u18 u19 u20 u21 u22 u23 u24 u25 u26 u27 u28 u29 (oj_9 (nI n) st mo_tokenCount mo_at mo_depth mo_height mo_last mo_fault mo_faultAt mo_extents mo_scopeCount mo_nameCount mo_errorAt mo_error) (.inl (false, s)) (.inl (false, kp)) u33 u34 u35 u36 u37 u38 u39 u40 u41 u42 u43 u44 u45 u46 u47 u48 u49 u50 u51 u52 u53)) : am_W (am_CX xs) (d + 1) 132 0 [(0, .ref 32), (1, .int p), (2, .int q), (3, .long e)] [] (HH u0 u1 u2 u3 u4 u5 u6 u7 u8 u9 u10 u11 u12 u13 u14 u15 u16 u17 u18 u19 u20 u21 u22 u23 u24 u25 u26 u27 u28 u29 (oj_9 (nI n) st mo_tokenCount mo_at mo_depth mo_height mo_last mo_fault mo_faultAt mo_extents mo_scopeCount mo_nameCount mo_errorAt mo_error) (.inl (false, s)) (.inl (false, kp)) u33 u34 u35 u36 u37 u38 u39 u40 u41 u42 u43 u44 u45 u46 u47 u48 u49 u50 u51 u52 u53) Q := by
  refine am_wh 3 (pc1 := 4) (lv1 := [(5, .int 0), (0, .ref 32), (1, .int p), (2, .int q), (3, .long e)]) (st1 := [.int p]) rfl ?_
  cases hb1 : am_if .lt p 0 with
  | true =>
    refine am_wb1 rfl true hb1 rfl ?_
    refine am_wh 4 (pc1 := 40) (lv1 := [(7, .int 56), (6, .int 0), (5, .int 0), (0, .ref 32), (1, .int p), (2, .int q), (3, .long e)]) (st1 := []) rfl ?_
    refine am_wl (lv := [(7, .int (ed_k 8)), (5, .int (nI 0)), (6, .int (bif false then 1 else 0)), (0, .ref 32), (1, .int p), (2, .int q), (3, .long e)]) ⟨rfl, rfl, rfl, rfl, rfl, rfl, rfl, trivial⟩ (em_edl xs d p q _ Q e 8 (Nat.le_refl 8) 0 false ?_)
    show am_W _ _ 132 103 [(5, .int (nI (0 + ed_n e 8))), (6, .int 0), (0, .ref 32), (1, .int p), (2, .int q), (3, .long e)] [] _ _
    refine am_wh 5 (pc1 := 134) (lv1 := [(5, .int (nI (0 + ed_n e 8))), (6, .int 0), (0, .ref 32), (1, .int p), (2, .int q), (3, .long e)]) (st1 := [.int (-1)]) rfl ?_
    refine am_wr rfl rfl rfl ?_
    exact hQ
  | false =>
    refine am_wb1 rfl false hb1 rfl ?_
    refine am_wh 3 (pc1 := 12) (lv1 := [(5, .int 0), (0, .ref 32), (1, .int p), (2, .int q), (3, .long e)]) (st1 := [.int (nI n), .int p]) rfl ?_
    cases hb2 : am_if .gt p (nI n) with
    | true =>
      refine am_wb2 rfl true hb2 rfl ?_
      refine am_wh 4 (pc1 := 40) (lv1 := [(7, .int 56), (6, .int 0), (5, .int 0), (0, .ref 32), (1, .int p), (2, .int q), (3, .long e)]) (st1 := []) rfl ?_
      refine am_wl (lv := [(7, .int (ed_k 8)), (5, .int (nI 0)), (6, .int (bif false then 1 else 0)), (0, .ref 32), (1, .int p), (2, .int q), (3, .long e)]) ⟨rfl, rfl, rfl, rfl, rfl, rfl, rfl, trivial⟩ (em_edl xs d p q _ Q e 8 (Nat.le_refl 8) 0 false ?_)
      show am_W _ _ 132 103 [(5, .int (nI (0 + ed_n e 8))), (6, .int 0), (0, .ref 32), (1, .int p), (2, .int q), (3, .long e)] [] _ _
      refine am_wh 5 (pc1 := 134) (lv1 := [(5, .int (nI (0 + ed_n e 8))), (6, .int 0), (0, .ref 32), (1, .int p), (2, .int q), (3, .long e)]) (st1 := [.int (-1)]) rfl ?_
      refine am_wr rfl rfl rfl ?_
      exact hQ
    | false =>
      refine am_wb2 rfl false hb2 rfl ?_
      refine am_wh 1 (pc1 := 16) (lv1 := [(5, .int 0), (0, .ref 32), (1, .int p), (2, .int q), (3, .long e)]) (st1 := [.int q]) rfl ?_
      cases hb3 : am_if .lt q 0 with
      | true =>
        refine am_wb1 rfl true hb3 rfl ?_
        refine am_wh 4 (pc1 := 40) (lv1 := [(7, .int 56), (6, .int 0), (5, .int 0), (0, .ref 32), (1, .int p), (2, .int q), (3, .long e)]) (st1 := []) rfl ?_
        refine am_wl (lv := [(7, .int (ed_k 8)), (5, .int (nI 0)), (6, .int (bif false then 1 else 0)), (0, .ref 32), (1, .int p), (2, .int q), (3, .long e)]) ⟨rfl, rfl, rfl, rfl, rfl, rfl, rfl, trivial⟩ (em_edl xs d p q _ Q e 8 (Nat.le_refl 8) 0 false ?_)
        show am_W _ _ 132 103 [(5, .int (nI (0 + ed_n e 8))), (6, .int 0), (0, .ref 32), (1, .int p), (2, .int q), (3, .long e)] [] _ _
        refine am_wh 5 (pc1 := 134) (lv1 := [(5, .int (nI (0 + ed_n e 8))), (6, .int 0), (0, .ref 32), (1, .int p), (2, .int q), (3, .long e)]) (st1 := [.int (-1)]) rfl ?_
        refine am_wr rfl rfl rfl ?_
        exact hQ
      | false =>
        refine am_wb1 rfl false hb3 rfl ?_
        refine am_wh 5 (pc1 := 26) (lv1 := [(5, .int 0), (0, .ref 32), (1, .int p), (2, .int q), (3, .long e)]) (st1 := [.int ((nI n) - p), .int q]) rfl ?_
        cases hb4 : am_if .gt q ((nI n) - p) with
        | true =>
          refine am_wb2 rfl true hb4 rfl ?_
          refine am_wh 4 (pc1 := 40) (lv1 := [(7, .int 56), (6, .int 0), (5, .int 0), (0, .ref 32), (1, .int p), (2, .int q), (3, .long e)]) (st1 := []) rfl ?_
          refine am_wl (lv := [(7, .int (ed_k 8)), (5, .int (nI 0)), (6, .int (bif false then 1 else 0)), (0, .ref 32), (1, .int p), (2, .int q), (3, .long e)]) ⟨rfl, rfl, rfl, rfl, rfl, rfl, rfl, trivial⟩ (em_edl xs d p q _ Q e 8 (Nat.le_refl 8) 0 false ?_)
          show am_W _ _ 132 103 [(5, .int (nI (0 + ed_n e 8))), (6, .int 0), (0, .ref 32), (1, .int p), (2, .int q), (3, .long e)] [] _ _
          refine am_wh 5 (pc1 := 134) (lv1 := [(5, .int (nI (0 + ed_n e 8))), (6, .int 0), (0, .ref 32), (1, .int p), (2, .int q), (3, .long e)]) (st1 := [.int (-1)]) rfl ?_
          refine am_wr rfl rfl rfl ?_
          exact hQ
        | false =>
          refine am_wb2 rfl false hb4 rfl ?_
          refine am_wh 5 (pc1 := 40) (lv1 := [(7, .int 56), (6, .int 1), (5, .int 0), (0, .ref 32), (1, .int p), (2, .int q), (3, .long e)]) (st1 := []) rfl ?_
          exact absurd (ed_pl hn hb1 hb2 hb3 (am_le1 hb4)) hpl
set_option maxRecDepth 100000 in
set_option maxHeartbeats 4000000 in
theorem wm_edy (xs : Option (List Int32)) (d n a k : Nat) {u0 u1 u2 u3 u4 u5 u6 u7 u8 u9 u10 u11 u12 u13 u14 u15 u16 u17 u18 u19 u20 u21 u22 u23 u24 u25 u26 u27 u28 u29 u33 u34 u35 u36 u37 u38 u39 u40 u41 u42 u43 u44 u45 u46 u47 u48 u49 u50 u51 u52 u53 : am_E} {mo_tokenCount mo_at mo_depth mo_height mo_last mo_fault mo_faultAt mo_extents mo_scopeCount mo_nameCount mo_errorAt mo_error : Int32} {st : Int32} {s kp : List Int32} (e : Int64) (hs : s.length = 200) (hkp : kp.length = 200) (Q : Option Value → List am_E → Prop) (hn : n ≤ 200) (hak : a + k ≤ n) (hQ0 : ed_al e 8 = false → Q (some (.int (-1))) (HH u0 u1 u2 u3 u4 u5 u6 u7 u8 u9 u10 u11 u12 u13 u14 u15 u16 u17 u18 u19 u20 u21 u22 u23 u24 u25 u26 u27 u28 u29 (oj_9 (nI n) st mo_tokenCount mo_at mo_depth mo_height mo_last mo_fault mo_faultAt mo_extents mo_scopeCount mo_nameCount mo_errorAt mo_error) (.inl (false, s)) (.inl (false, kp)) u33 u34 u35 u36 u37 u38 u39 u40 u41 u42 u43 u44 u45 u46 u47 u48 u49 u50 u51 u52 u53)) (hQ1 : ed_al e 8 = true → ¬ n - k + ed_n e 8 ≤ 200 → Q (some (.int (-2))) (HH u0 u1 u2 u3 u4 u5 u6 u7 u8 u9 u10 u11 u12 u13 u14 u15 u16 u17 u18 u19 u20 u21 u22 u23 u24 u25 u26 u27 u28 u29 (oj_9 (nI n) st mo_tokenCount mo_at mo_depth mo_height mo_last mo_fault mo_faultAt mo_extents mo_scopeCount mo_nameCount mo_errorAt mo_error) (.inl (false, s)) (.inl (false, kp)) u33 u34 u35 u36 u37 u38 u39 u40 u41 u42 u43 u44 u45 u46 u47 u48 u49 u50 u51 u52 u53)) (hQ2 : ed_al e 8 = true → n - k + ed_n e 8 ≤ 200 → Q (some (.int (((nI n) - (nI k)) + (nI (ed_n e 8))))) (HH u0 u1 u2 u3 u4 u5 u6 u7 u8 u9 u10 u11 u12 u13 u14 u15 u16 u17 u18 u19 u20 u21 u22 u23 u24 u25 u26 u27 u28 u29 (oj_9 (((nI n) - (nI k)) + (nI (ed_n e 8))) 1 mo_tokenCount mo_at mo_depth mo_height mo_last mo_fault mo_faultAt mo_extents mo_scopeCount mo_nameCount mo_errorAt mo_error) (.inl (false, (md_r e n a k s kp))) (.inl (false, (md_c (n - a - k) (a + k) s kp))) u33 u34 u35 u36 u37 u38 u39 u40 u41 u42 u43 u44 u45 u46 u47 u48 u49 u50 u51 u52 u53)) : am_W (am_CX xs) (d + 2) 132 0 [(0, .ref 32), (1, .int (nI a)), (2, .int (nI k)), (3, .long e)] [] (HH u0 u1 u2 u3 u4 u5 u6 u7 u8 u9 u10 u11 u12 u13 u14 u15 u16 u17 u18 u19 u20 u21 u22 u23 u24 u25 u26 u27 u28 u29 (oj_9 (nI n) st mo_tokenCount mo_at mo_depth mo_height mo_last mo_fault mo_faultAt mo_extents mo_scopeCount mo_nameCount mo_errorAt mo_error) (.inl (false, s)) (.inl (false, kp)) u33 u34 u35 u36 u37 u38 u39 u40 u41 u42 u43 u44 u45 u46 u47 u48 u49 u50 u51 u52 u53) Q := by
  have hn8 : ed_n e 8 ≤ 8 := ed_n_le e 8
  refine am_wh 3 (pc1 := 4) (lv1 := [(5, .int 0), (0, .ref 32), (1, .int (nI a)), (2, .int (nI k)), (3, .long e)]) (st1 := [.int (nI a)]) rfl ?_
  refine am_wb1 rfl false (ed_pl1 hn (by omega)) rfl ?_
  refine am_wh 3 (pc1 := 12) (lv1 := [(5, .int 0), (0, .ref 32), (1, .int (nI a)), (2, .int (nI k)), (3, .long e)]) (st1 := [.int (nI n), .int (nI a)]) rfl ?_
  refine am_wb2 rfl false (ed_pl2 hn (by omega)) rfl ?_
  refine am_wh 1 (pc1 := 16) (lv1 := [(5, .int 0), (0, .ref 32), (1, .int (nI a)), (2, .int (nI k)), (3, .long e)]) (st1 := [.int (nI k)]) rfl ?_
  refine am_wb1 rfl false (ed_pl1 hn (by omega)) rfl ?_
  refine am_wh 5 (pc1 := 26) (lv1 := [(5, .int 0), (0, .ref 32), (1, .int (nI a)), (2, .int (nI k)), (3, .long e)]) (st1 := [.int ((nI n) - (nI a)), .int (nI k)]) rfl ?_
  refine am_wb2 rfl false (ed_pl5 hn hak) rfl ?_
  refine am_wh 5 (pc1 := 40) (lv1 := [(7, .int 56), (6, .int 1), (5, .int 0), (0, .ref 32), (1, .int (nI a)), (2, .int (nI k)), (3, .long e)]) (st1 := []) rfl ?_
  refine am_wl (lv := [(7, .int (ed_k 8)), (5, .int (nI 0)), (6, .int (bif true then 1 else 0)), (0, .ref 32), (1, .int (nI a)), (2, .int (nI k)), (3, .long e)]) ⟨rfl, rfl, rfl, rfl, rfl, rfl, rfl, trivial⟩ (em_edl xs (d + 1) _ _ _ Q e 8 (Nat.le_refl 8) 0 true ?_)
  rw [Nat.zero_add]
  show am_W _ _ 132 103 [(5, .int (nI (ed_n e 8))), (6, .int (bif ed_al e 8 then 1 else 0)), (0, .ref 32), (1, .int (nI a)), (2, .int (nI k)), (3, .long e)] [] _ _
  refine am_wh 1 (pc1 := 105) (lv1 := [(5, .int (nI (ed_n e 8))), (6, .int (bif ed_al e 8 then 1 else 0)), (0, .ref 32), (1, .int (nI a)), (2, .int (nI k)), (3, .long e)]) (st1 := [.int (bif ed_al e 8 then 1 else 0)]) rfl ?_
  cases hb1 : am_if .eq (bif ed_al e 8 then 1 else 0) 0 with
  | true =>
    refine am_wb1 rfl true hb1 rfl ?_
    refine am_wh 1 (pc1 := 125) (lv1 := [(5, .int (nI (ed_n e 8))), (6, .int (bif ed_al e 8 then 1 else 0)), (0, .ref 32), (1, .int (nI a)), (2, .int (nI k)), (3, .long e)]) (st1 := [.int (bif ed_al e 8 then 1 else 0)]) rfl ?_
    refine am_wb1 rfl true (hb1) rfl ?_
    refine am_wh 1 (pc1 := 134) (lv1 := [(5, .int (nI (ed_n e 8))), (6, .int (bif ed_al e 8 then 1 else 0)), (0, .ref 32), (1, .int (nI a)), (2, .int (nI k)), (3, .long e)]) (st1 := [.int (-1)]) rfl ?_
    refine am_wr rfl rfl rfl ?_
    rw [ed_eq] at hb1
    exact hQ0 (by simpa using hb1)
  | false =>
    refine am_wb1 rfl false hb1 rfl ?_
    refine am_wh 7 (pc1 := 120) (lv1 := [(5, .int (nI (ed_n e 8))), (6, .int (bif ed_al e 8 then 1 else 0)), (0, .ref 32), (1, .int (nI a)), (2, .int (nI k)), (3, .long e)]) (st1 := [.int 200, .int (((nI n) - (nI k)) + (nI (ed_n e 8)))]) rfl ?_
    cases hb2 : am_if .le (((nI n) - (nI k)) + (nI (ed_n e 8))) 200 with
    | true =>
      refine am_wb2 rfl true hb2 rfl ?_
      refine am_wh 5 (pc1 := 141) (lv1 := [(5, .int (nI (ed_n e 8))), (6, .int (bif ed_al e 8 then 1 else 0)), (0, .ref 32), (1, .int (nI a)), (2, .int (nI k)), (3, .long e)]) (st1 := [.long e, .int (nI (ed_n e 8)), .int (nI k), .int (nI a), .ref 32]) rfl ?_
      refine am_wc rfl rfl rfl ?_
      refine wm_rep xs _ n a k e _ s kp hs hkp hak hn (by rw [ed_full hn (by omega) hn8] at hb2; exact of_decide_eq_true hb2) ?_
      show am_W _ _ 132 144 [(5, .int (nI (ed_n e 8))), (6, .int (bif ed_al e 8 then 1 else 0)), (0, .ref 32), (1, .int (nI a)), (2, .int (nI k)), (3, .long e)] [] _ _
      refine am_wh 2 (pc1 := 148) (lv1 := [(5, .int (nI (ed_n e 8))), (6, .int (bif ed_al e 8 then 1 else 0)), (0, .ref 32), (1, .int (nI a)), (2, .int (nI k)), (3, .long e)]) (st1 := [.int (((nI n) - (nI k)) + (nI (ed_n e 8)))]) rfl ?_
      refine am_wr rfl rfl rfl ?_
      rw [ed_eq] at hb1
      rw [ed_full hn (by omega) hn8] at hb2
      exact hQ2 (by simpa using hb1) (of_decide_eq_true hb2)
    | false =>
      refine am_wb2 rfl false hb2 rfl ?_
      refine am_wh 1 (pc1 := 125) (lv1 := [(5, .int (nI (ed_n e 8))), (6, .int (bif ed_al e 8 then 1 else 0)), (0, .ref 32), (1, .int (nI a)), (2, .int (nI k)), (3, .long e)]) (st1 := [.int (bif ed_al e 8 then 1 else 0)]) rfl ?_
      refine am_wb1 rfl false (hb1) rfl ?_
      refine am_wh 2 (pc1 := 134) (lv1 := [(5, .int (nI (ed_n e 8))), (6, .int (bif ed_al e 8 then 1 else 0)), (0, .ref 32), (1, .int (nI a)), (2, .int (nI k)), (3, .long e)]) (st1 := [.int (-2)]) rfl ?_
      refine am_wr rfl rfl rfl ?_
      rw [ed_eq] at hb1
      rw [ed_full hn (by omega) hn8] at hb2
      exact hQ1 (by simpa using hb1) (of_decide_eq_false hb2)
set_option maxRecDepth 100000 in
set_option maxHeartbeats 4000000 in
theorem wm_len (xs : Option (List Int32)) (d : Nat) {u0 u1 u2 u3 u4 u5 u6 u7 u8 u9 u10 u11 u12 u13 u14 u15 u16 u17 u18 u19 u20 u21 u22 u23 u24 u25 u26 u27 u28 u29 u33 u34 u35 u36 u37 u38 u39 u40 u41 u42 u43 u44 u45 u46 u47 u48 u49 u50 u51 u52 u53 : am_E} {mo_tokenCount mo_at mo_depth mo_height mo_last mo_fault mo_faultAt mo_extents mo_scopeCount mo_nameCount mo_errorAt mo_error : Int32} {n st : Int32} {s kp : List Int32} (Q : Option Value → List am_E → Prop) (hQ : Q (some (.int n)) (HH u0 u1 u2 u3 u4 u5 u6 u7 u8 u9 u10 u11 u12 u13 u14 u15 u16 u17 u18 u19 u20 u21 u22 u23 u24 u25 u26 u27 u28 u29 (oj_9 n st mo_tokenCount mo_at mo_depth mo_height mo_last mo_fault mo_faultAt mo_extents mo_scopeCount mo_nameCount mo_errorAt mo_error) (.inl (false, s)) (.inl (false, kp)) u33 u34 u35 u36 u37 u38 u39 u40 u41 u42 u43 u44 u45 u46 u47 u48 u49 u50 u51 u52 u53)) : am_W (am_CX xs) d 134 0 [(0, .ref 32)] [] (HH u0 u1 u2 u3 u4 u5 u6 u7 u8 u9 u10 u11 u12 u13 u14 u15 u16 u17 u18 u19 u20 u21 u22 u23 u24 u25 u26 u27 u28 u29 (oj_9 n st mo_tokenCount mo_at mo_depth mo_height mo_last mo_fault mo_faultAt mo_extents mo_scopeCount mo_nameCount mo_errorAt mo_error) (.inl (false, s)) (.inl (false, kp)) u33 u34 u35 u36 u37 u38 u39 u40 u41 u42 u43 u44 u45 u46 u47 u48 u49 u50 u51 u52 u53) Q := by
  refine am_wh 2 (pc1 := 4) (lv1 := [(0, .ref 32)]) (st1 := [.int n]) rfl ?_
  refine am_wr rfl rfl rfl ?_
  exact hQ
set_option maxRecDepth 100000 in
set_option maxHeartbeats 4000000 in
theorem wm_chr (xs : Option (List Int32)) (d : Nat) {u0 u1 u2 u3 u4 u5 u6 u7 u8 u9 u10 u11 u12 u13 u14 u15 u16 u17 u18 u19 u20 u21 u22 u23 u24 u25 u26 u27 u28 u29 u33 u34 u35 u36 u37 u38 u39 u40 u41 u42 u43 u44 u45 u46 u47 u48 u49 u50 u51 u52 u53 : am_E} {mo_tokenCount mo_at mo_depth mo_height mo_last mo_fault mo_faultAt mo_extents mo_scopeCount mo_nameCount mo_errorAt mo_error : Int32} {st : Int32} {t s kp : List Int32} (ht : tx_in t s) (p : Int32) (Q : Option Value → List am_E → Prop) (hQ : Q (some (.int (tx_at t p))) (HH u0 u1 u2 u3 u4 u5 u6 u7 u8 u9 u10 u11 u12 u13 u14 u15 u16 u17 u18 u19 u20 u21 u22 u23 u24 u25 u26 u27 u28 u29 (oj_9 (nI t.length) st mo_tokenCount mo_at mo_depth mo_height mo_last mo_fault mo_faultAt mo_extents mo_scopeCount mo_nameCount mo_errorAt mo_error) (.inl (false, s)) (.inl (false, kp)) u33 u34 u35 u36 u37 u38 u39 u40 u41 u42 u43 u44 u45 u46 u47 u48 u49 u50 u51 u52 u53)) : am_W (am_CX xs) d 135 0 [(0, .ref 32), (1, .int p)] [] (HH u0 u1 u2 u3 u4 u5 u6 u7 u8 u9 u10 u11 u12 u13 u14 u15 u16 u17 u18 u19 u20 u21 u22 u23 u24 u25 u26 u27 u28 u29 (oj_9 (nI t.length) st mo_tokenCount mo_at mo_depth mo_height mo_last mo_fault mo_faultAt mo_extents mo_scopeCount mo_nameCount mo_errorAt mo_error) (.inl (false, s)) (.inl (false, kp)) u33 u34 u35 u36 u37 u38 u39 u40 u41 u42 u43 u44 u45 u46 u47 u48 u49 u50 u51 u52 u53) Q := by
  refine am_wh 1 (pc1 := 1) (lv1 := [(0, .ref 32), (1, .int p)]) (st1 := [.int p]) rfl ?_
  cases hb1 : am_if .lt p 0 with
  | true =>
    refine am_wb1 rfl true hb1 rfl ?_
    refine am_wh 1 (pc1 := 22) (lv1 := [(0, .ref 32), (1, .int p)]) (st1 := [.int (-1)]) rfl ?_
    refine am_wr rfl rfl rfl ?_
    rw [show tx_at t p = -1 by simp [tx_at, hb1]] at hQ
    exact hQ
  | false =>
    refine am_wb1 rfl false hb1 rfl ?_
    refine am_wh 3 (pc1 := 9) (lv1 := [(0, .ref 32), (1, .int p)]) (st1 := [.int (nI t.length), .int p]) rfl ?_
    cases hb2 : am_if .ge p (nI t.length) with
    | true =>
      refine am_wb2 rfl true hb2 rfl ?_
      refine am_wh 1 (pc1 := 22) (lv1 := [(0, .ref 32), (1, .int p)]) (st1 := [.int (-1)]) rfl ?_
      refine am_wr rfl rfl rfl ?_
      rw [show tx_at t p = -1 by simp [tx_at, hb1, am_lt0 hb2]] at hQ
      exact hQ
    | false =>
      refine am_wb2 rfl false hb2 rfl ?_
      refine am_wh 3 (pc1 := 17) (lv1 := [(0, .ref 32), (1, .int p)]) (st1 := [.int p, .ref 33]) rfl ?_
      refine am_wli (v := (tx_at t p)) rfl rfl ((tx_atc ht hb1 (am_lt1 hb2)).1) ((tx_atc ht hb1 (am_lt1 hb2)).2) ?_
      refine am_wh 1 (pc1 := 22) (lv1 := [(0, .ref 32), (1, .int p)]) (st1 := [.int (tx_at t p)]) rfl ?_
      refine am_wr rfl rfl rfl ?_
      exact hQ
end
section
/-! The state of the two objects: the numbers of their fields, their arrays. -/
abbrev zS : Type := (Nat → Int32) × (Nat → List Int32)
def zf (s : zS) (k : Nat) (v : Int32) : zS := (fun j => bif j == k then v else s.1 j, s.2)
def za (s : zS) (k : Nat) (l : List Int32) : zS := (s.1, fun j => bif j == k then l else s.2 j)
def zH (s : zS) : List am_E := HH (oj_0 (s.1 0)) (oj_1 (s.1 1)) (.inl (true, s.2 2)) (oj_2 (s.1 2) (s.1 3) (s.1 4)) (.inl (false, s.2 4)) (.inl (false, s.2 5)) (.inl (false, s.2 6)) (.inl (false, s.2 7)) (oj_3 (s.1 5)) (.inl (false, s.2 9)) (.inl (false, s.2 10)) (oj_4 (s.1 6)) (.inl (false, s.2 12)) (.inl (false, s.2 13)) (.inl (false, s.2 14)) (oj_5 (s.1 7)) (.inl (false, s.2 16)) (.inl (false, s.2 17)) (.inl (false, s.2 18)) (.inl (false, s.2 19)) (.inl (false, s.2 20)) (.inl (false, s.2 21)) (.inl (false, s.2 22)) (.inl (false, s.2 23)) (oj_6 (s.1 8) (s.1 9) (s.1 10) (s.1 11) (s.1 12) (s.1 13) (s.1 14) (s.1 15) (s.1 16)) (oj_7 (s.1 17) (s.1 18)) (oj_8 (s.1 19) (s.1 20)) (.inl (true, s.2 27)) (.inl (false, s.2 28)) (.inl (false, s.2 29)) (oj_9 (s.1 21) (s.1 22) (s.1 23) (s.1 24) (s.1 25) (s.1 26) (s.1 27) (s.1 28) (s.1 29) (s.1 30) (s.1 31) (s.1 32) (s.1 33) (s.1 34)) (.inl (false, s.2 31)) (.inl (false, s.2 32)) (.inl (false, s.2 33)) (.inl (false, s.2 34)) (.inl (false, s.2 35)) (.inl (false, s.2 36)) (.inl (false, s.2 37)) (.inl (false, s.2 38)) (.inl (false, s.2 39)) (.inl (false, s.2 40)) (.inl (false, s.2 41)) (.inl (false, s.2 42)) (.inl (false, s.2 43)) (.inl (false, s.2 44)) (.inl (false, s.2 45)) (.inl (false, s.2 46)) (.inl (false, s.2 47)) (.inl (false, s.2 48)) (.inl (false, s.2 49)) (.inl (false, s.2 50)) (.inl (false, s.2 51)) (.inl (false, s.2 52)) (.inl (false, s.2 53))
def zI (x : Int) : Int32 := Int32.ofInt x
def zR (x : Int) : Prop := -2147483648 ≤ x ∧ x ≤ 2147483647
def zX (l : List Int32) (i : Int) : Prop := 0 ≤ i ∧ i < (l.length : Int) ∧ l.length < 2147483648
def zg (l : List Int32) (i : Int) : Int32 := l.getD i.toNat 0
def zu (l : List Int32) (i : Int) (v : Int32) : List Int32 := l.set i.toNat v
def zQi (Q : Int32 → zS → Prop) (r : Option Value) (h : List am_E) : Prop := ∃ v s, r = some (.int v) ∧ h = zH s ∧ Q v s
def zQl (Q : Int64 → zS → Prop) (r : Option Value) (h : List am_E) : Prop := ∃ v s, r = some (.long v) ∧ h = zH s ∧ Q v s
def zQv (Q : zS → Prop) (r : Option Value) (h : List am_E) : Prop := ∃ s, r = none ∧ h = zH s ∧ Q s
def zWi (xs : Option (List Int32)) (d m pc : Nat) (lv : am_V) (s : zS) (Q : Int32 → zS → Prop) : Prop := am_W (am_CX xs) d m pc lv [] (zH s) (zQi Q)
def zWl (xs : Option (List Int32)) (d m pc : Nat) (lv : am_V) (s : zS) (Q : Int64 → zS → Prop) : Prop := am_W (am_CX xs) d m pc lv [] (zH s) (zQl Q)
def zWv (xs : Option (List Int32)) (d m pc : Nat) (lv : am_V) (s : zS) (Q : zS → Prop) : Prop := am_W (am_CX xs) d m pc lv [] (zH s) (zQv Q)
theorem zWi_w {xs : Option (List Int32)} {d m pc : Nat} {lv : am_V} {s : zS} {Q Q1 : Int32 → zS → Prop} (h : zWi xs d m pc lv s Q1) (hq : ∀ v s1, Q1 v s1 → Q v s1) : zWi xs d m pc lv s Q := am_ww h (by rintro _ _ ⟨v, s1, rfl, rfl, h1⟩; exact ⟨v, s1, rfl, rfl, hq v s1 h1⟩)
theorem zWv_w {xs : Option (List Int32)} {d m pc : Nat} {lv : am_V} {s : zS} {Q Q1 : zS → Prop} (h : zWv xs d m pc lv s Q1) (hq : ∀ s1, Q1 s1 → Q s1) : zWv xs d m pc lv s Q := am_ww h (by rintro _ _ ⟨s1, rfl, rfl, h1⟩; exact ⟨s1, rfl, rfl, hq s1 h1⟩)
theorem zf_f (s : zS) (k j : Nat) (v : Int32) : (zf s k v).1 j = bif j == k then v else s.1 j := rfl
theorem zf_a (s : zS) (k : Nat) (v : Int32) : (zf s k v).2 = s.2 := rfl
theorem za_f (s : zS) (k : Nat) (l : List Int32) : (za s k l).1 = s.1 := rfl
theorem za_a (s : zS) (k j : Nat) (l : List Int32) : (za s k l).2 j = bif j == k then l else s.2 j := rfl
theorem zq_a (x : Int32) : x = zI x.toInt := (Int32.ofInt_toInt x).symm
theorem zq_add {x y : Int32} {a b : Int} (h1 : x = zI a) (h2 : y = zI b) : x + y = zI (a + b) := by subst h1; subst h2; exact (Int32.ofInt_add a b).symm
theorem zq_sub {x y : Int32} {a b : Int} (h1 : x = zI a) (h2 : y = zI b) : x - y = zI (a - b) := by subst h1; subst h2; exact (Int32.ofInt_sub a b).symm
theorem zq_mul {x y : Int32} {a b : Int} (h1 : x = zI a) (h2 : y = zI b) : x * y = zI (a * b) := by subst h1; subst h2; exact (Int32.ofInt_mul a b).symm
theorem zr_t (x : Int32) : zR x.toInt := ⟨Int32.le_toInt x, Int32.toInt_le x⟩
theorem zI_t {a : Int} (h : zR a) : (zI a).toInt = a := Int32.toInt_ofInt_of_le h.1 (by have := h.2; omega)
theorem zI_inj {a b : Int} (ha : zR a) (hb : zR b) (h : zI a = zI b) : a = b := by rw [← zI_t ha, ← zI_t hb, h]
theorem zk_eq {x y : Int32} {a b : Int} (p : x = zI a) (q : y = zI b) (ra : zR a) (rb : zR b) : (x = y) ↔ a = b := ⟨fun h => zI_inj ra rb (by rw [← p, ← q, h]), fun h => by rw [p, q, h]⟩
theorem zk_lt {x y : Int32} {a b : Int} (p : x = zI a) (q : y = zI b) (ra : zR a) (rb : zR b) : (x < y) ↔ a < b := by rw [Int32.lt_iff_toInt_lt, p, q, zI_t ra, zI_t rb]
theorem zk_le {x y : Int32} {a b : Int} (p : x = zI a) (q : y = zI b) (ra : zR a) (rb : zR b) : (x ≤ y) ↔ a ≤ b := by rw [Int32.le_iff_toInt_le, p, q, zI_t ra, zI_t rb]
theorem zt_eq {x y : Int32} {a b : Int} (p : x = zI a) (q : y = zI b) (ra : zR a) (rb : zR b) (h : a = b) : am_if .eq x y = true := decide_eq_true ((zk_eq p q ra rb).mpr h)
theorem zn_eq {x y : Int32} {a b : Int} (p : x = zI a) (q : y = zI b) (ra : zR a) (rb : zR b) (h : ¬ a = b) : am_if .eq x y = false := decide_eq_false (fun e => h ((zk_eq p q ra rb).mp e))
theorem zt_ne {x y : Int32} {a b : Int} (p : x = zI a) (q : y = zI b) (ra : zR a) (rb : zR b) (h : ¬ a = b) : am_if .ne x y = true := decide_eq_true (fun e => h ((zk_eq p q ra rb).mp e))
theorem zn_ne {x y : Int32} {a b : Int} (p : x = zI a) (q : y = zI b) (ra : zR a) (rb : zR b) (h : a = b) : am_if .ne x y = false := decide_eq_false (fun e => e ((zk_eq p q ra rb).mpr h))
theorem zt_lt {x y : Int32} {a b : Int} (p : x = zI a) (q : y = zI b) (ra : zR a) (rb : zR b) (h : a < b) : am_if .lt x y = true := decide_eq_true ((zk_lt p q ra rb).mpr h)
theorem zn_lt {x y : Int32} {a b : Int} (p : x = zI a) (q : y = zI b) (ra : zR a) (rb : zR b) (h : ¬ a < b) : am_if .lt x y = false := decide_eq_false (fun e => h ((zk_lt p q ra rb).mp e))
theorem zt_ge {x y : Int32} {a b : Int} (p : x = zI a) (q : y = zI b) (ra : zR a) (rb : zR b) (h : ¬ a < b) : am_if .ge x y = true := decide_eq_true ((zk_le q p rb ra).mpr (by omega))
theorem zn_ge {x y : Int32} {a b : Int} (p : x = zI a) (q : y = zI b) (ra : zR a) (rb : zR b) (h : a < b) : am_if .ge x y = false := decide_eq_false (fun e => by have := (zk_le q p rb ra).mp e; omega)
theorem zt_gt {x y : Int32} {a b : Int} (p : x = zI a) (q : y = zI b) (ra : zR a) (rb : zR b) (h : b < a) : am_if .gt x y = true := decide_eq_true ((zk_lt q p rb ra).mpr h)
theorem zn_gt {x y : Int32} {a b : Int} (p : x = zI a) (q : y = zI b) (ra : zR a) (rb : zR b) (h : ¬ b < a) : am_if .gt x y = false := decide_eq_false (fun e => h ((zk_lt q p rb ra).mp e))
theorem zt_le {x y : Int32} {a b : Int} (p : x = zI a) (q : y = zI b) (ra : zR a) (rb : zR b) (h : ¬ b < a) : am_if .le x y = true := decide_eq_true ((zk_le p q ra rb).mpr (by omega))
theorem zn_le {x y : Int32} {a b : Int} (p : x = zI a) (q : y = zI b) (ra : zR a) (rb : zR b) (h : b < a) : am_if .le x y = false := decide_eq_false (fun e => by have := (zk_le p q ra rb).mp e; omega)
theorem zmx_t {x y : Int32} {a b : Int} (p : x = zI a) (q : y = zI b) (ra : zR a) (rb : zR b) (h : a < b) : (if x < y then y else x) = y := if_pos ((zk_lt p q ra rb).mpr h)
theorem zmx_n {x y : Int32} {a b : Int} (p : x = zI a) (q : y = zI b) (ra : zR a) (rb : zR b) (h : ¬ a < b) : (if x < y then y else x) = x := if_neg (fun e => h ((zk_lt p q ra rb).mp e))
theorem zr_b {v : Int32} (h : v = 0 ∨ v = 1) : am_dr (some .boolean) .ireturn [.int v] = some (some (.int v)) := by rcases h with rfl | rfl <;> rfl
theorem zX_g {l : List Int32} {i : Int} {idx : Int32} (q : idx = zI i) (hx : zX l i) : ¬ idx < 0 ∧ idx.toNatClampNeg = i.toNat ∧ idx.toNatClampNeg < l.length := by
  obtain ⟨h0, h1, h2⟩ := hx
  have hr : zR i := ⟨by omega, by omega⟩
  have e : idx.toNatClampNeg = i.toNat := by rw [← Int32.toNat_toInt, q, zI_t hr]
  refine ⟨?_, e, by rw [e]; omega⟩
  rw [zk_lt q (show (0 : Int32) = zI 0 by decide) hr ⟨by decide, by decide⟩]
  omega
section ZW
variable {C : am_C} {d mi pc : Nat} {lv : am_V} {st : List Value} {h h1 : List am_E} {Q : Option Value → List am_E → Prop} {len : Nat} {x : am_X} {idx v : Int32} {a : Nat}
theorem zw_li {l : List Int32} {i : Int} (hat : am_at C mi pc = some (.iaload, len, x)) (ha : am_ar h a = some (false, l)) (q : idx = zI i) (hx : zX l i) (hg : am_W C d mi (pc + 1) lv (.int (zg l i) :: st) h Q) : am_W C d mi pc lv (.int idx :: .ref a :: st) h Q := by
  obtain ⟨g0, g1, g2⟩ := zX_g q hx
  refine am_wli hat ha g0 ?_ hg
  rw [g1]
  rw [g1] at g2
  unfold zg
  rw [List.getD_eq_getElem?_getD, List.getElem?_eq_getElem g2]
  rfl
theorem zw_lc {l : List Int32} {i : Int} (hat : am_at C mi pc = some (.caload, len, x)) (ha : am_ar h a = some (true, l)) (q : idx = zI i) (hx : zX l i) (hg : am_W C d mi (pc + 1) lv (.int (zg l i) :: st) h Q) : am_W C d mi pc lv (.int idx :: .ref a :: st) h Q := by
  obtain ⟨g0, g1, g2⟩ := zX_g q hx
  refine am_wlc hat ha g0 ?_ hg
  rw [g1]
  rw [g1] at g2
  unfold zg
  rw [List.getD_eq_getElem?_getD, List.getElem?_eq_getElem g2]
  rfl
theorem zw_si {l : List Int32} {i : Int} (hat : am_at C mi pc = some (.iastore, len, x)) (ha : am_ar h a = some (false, l)) (q : idx = zI i) (hx : zX l i) (hh : h.set (a - 2) (.inl (false, zu l i v)) = h1) (hg : am_W C d mi (pc + 1) lv st h1 Q) : am_W C d mi pc lv (.int v :: .int idx :: .ref a :: st) h Q := by
  obtain ⟨g0, g1, g2⟩ := zX_g q hx
  refine am_wsi hat ha g0 g2 ?_ hg
  rw [g1]
  exact hh
theorem zw_lk {dflt : Int} {ps : Array (Int × Int)} {b : Int32} {tgt : Nat} (hat : am_at C mi pc = some (.lookupswitch dflt ps, len, x)) (ht : am_to pc (Op.lookupswitch.offset ps.toList dflt b.toInt) = some tgt) (hg : am_W C d mi tgt lv st h Q) : am_W C d mi pc lv (.int b :: st) h Q := by
  refine am_w0 (z := (tgt, lv, st, h)) hat rfl ?_ hg
  show am_sw (fun a => am_to pc (Op.lookupswitch.offset ps.toList dflt a.toInt)) lv (.int b :: st) h = _
  simp [am_sw, ht]
end ZW
theorem zp_0 {s : zS} {pc : Nat} {lv : am_V} {v : Int32} {st : List Value} (hb : am_fi .boolean (.int v) = true) : am_put .boolean 0 8 pc lv (.int v :: .ref 2 :: st) (zH s) = some (pc + 3, lv, st, zH (zf s 0 v)) := by
  show (bif _ && (_ && am_fi .boolean (.int v)) then _ else _) = _
  rw [hb]
  rfl
theorem zp_1 {s : zS} {pc : Nat} {lv : am_V} {v : Int32} {st : List Value} : am_put .int 1 1 pc lv (.int v :: .ref 3 :: st) (zH s) = some (pc + 3, lv, st, zH (zf s 1 v)) := rfl
theorem zp_2 {s : zS} {pc : Nat} {lv : am_V} {v : Int32} {st : List Value} : am_put .int 2 5 pc lv (.int v :: .ref 5 :: st) (zH s) = some (pc + 3, lv, st, zH (zf s 2 v)) := rfl
theorem zp_3 {s : zS} {pc : Nat} {lv : am_V} {v : Int32} {st : List Value} : am_put .int 2 6 pc lv (.int v :: .ref 5 :: st) (zH s) = some (pc + 3, lv, st, zH (zf s 3 v)) := rfl
theorem zp_4 {s : zS} {pc : Nat} {lv : am_V} {v : Int32} {st : List Value} : am_put .int 2 7 pc lv (.int v :: .ref 5 :: st) (zH s) = some (pc + 3, lv, st, zH (zf s 4 v)) := rfl
theorem zp_5 {s : zS} {pc : Nat} {lv : am_V} {v : Int32} {st : List Value} : am_put .int 3 2 pc lv (.int v :: .ref 10 :: st) (zH s) = some (pc + 3, lv, st, zH (zf s 5 v)) := rfl
theorem zp_6 {s : zS} {pc : Nat} {lv : am_V} {v : Int32} {st : List Value} : am_put .int 4 3 pc lv (.int v :: .ref 13 :: st) (zH s) = some (pc + 3, lv, st, zH (zf s 6 v)) := rfl
theorem zp_7 {s : zS} {pc : Nat} {lv : am_V} {v : Int32} {st : List Value} : am_put .int 5 8 pc lv (.int v :: .ref 17 :: st) (zH s) = some (pc + 3, lv, st, zH (zf s 7 v)) := rfl
theorem zp_8 {s : zS} {pc : Nat} {lv : am_V} {v : Int32} {st : List Value} : am_put .int 6 4 pc lv (.int v :: .ref 26 :: st) (zH s) = some (pc + 3, lv, st, zH (zf s 8 v)) := rfl
theorem zp_9 {s : zS} {pc : Nat} {lv : am_V} {v : Int32} {st : List Value} : am_put .int 6 5 pc lv (.int v :: .ref 26 :: st) (zH s) = some (pc + 3, lv, st, zH (zf s 9 v)) := rfl
theorem zp_10 {s : zS} {pc : Nat} {lv : am_V} {v : Int32} {st : List Value} : am_put .int 6 6 pc lv (.int v :: .ref 26 :: st) (zH s) = some (pc + 3, lv, st, zH (zf s 10 v)) := rfl
theorem zp_11 {s : zS} {pc : Nat} {lv : am_V} {v : Int32} {st : List Value} : am_put .int 6 7 pc lv (.int v :: .ref 26 :: st) (zH s) = some (pc + 3, lv, st, zH (zf s 11 v)) := rfl
theorem zp_12 {s : zS} {pc : Nat} {lv : am_V} {v : Int32} {st : List Value} : am_put .int 6 8 pc lv (.int v :: .ref 26 :: st) (zH s) = some (pc + 3, lv, st, zH (zf s 12 v)) := rfl
theorem zp_13 {s : zS} {pc : Nat} {lv : am_V} {v : Int32} {st : List Value} : am_put .int 6 9 pc lv (.int v :: .ref 26 :: st) (zH s) = some (pc + 3, lv, st, zH (zf s 13 v)) := rfl
theorem zp_14 {s : zS} {pc : Nat} {lv : am_V} {v : Int32} {st : List Value} : am_put .int 6 10 pc lv (.int v :: .ref 26 :: st) (zH s) = some (pc + 3, lv, st, zH (zf s 14 v)) := rfl
theorem zp_15 {s : zS} {pc : Nat} {lv : am_V} {v : Int32} {st : List Value} : am_put .int 6 11 pc lv (.int v :: .ref 26 :: st) (zH s) = some (pc + 3, lv, st, zH (zf s 15 v)) := rfl
theorem zp_16 {s : zS} {pc : Nat} {lv : am_V} {v : Int32} {st : List Value} : am_put .int 6 12 pc lv (.int v :: .ref 26 :: st) (zH s) = some (pc + 3, lv, st, zH (zf s 16 v)) := rfl
theorem zp_17 {s : zS} {pc : Nat} {lv : am_V} {v : Int32} {st : List Value} : am_put .int 7 3 pc lv (.int v :: .ref 27 :: st) (zH s) = some (pc + 3, lv, st, zH (zf s 17 v)) := rfl
theorem zp_18 {s : zS} {pc : Nat} {lv : am_V} {v : Int32} {st : List Value} : am_put .int 7 4 pc lv (.int v :: .ref 27 :: st) (zH s) = some (pc + 3, lv, st, zH (zf s 18 v)) := rfl
theorem zp_19 {s : zS} {pc : Nat} {lv : am_V} {v : Int32} {st : List Value} : am_put .int 8 3 pc lv (.int v :: .ref 28 :: st) (zH s) = some (pc + 3, lv, st, zH (zf s 19 v)) := rfl
theorem zp_20 {s : zS} {pc : Nat} {lv : am_V} {v : Int32} {st : List Value} : am_put .int 8 4 pc lv (.int v :: .ref 28 :: st) (zH s) = some (pc + 3, lv, st, zH (zf s 20 v)) := rfl
theorem zp_21 {s : zS} {pc : Nat} {lv : am_V} {v : Int32} {st : List Value} : am_put .int 9 0 pc lv (.int v :: .ref 32 :: st) (zH s) = some (pc + 3, lv, st, zH (zf s 21 v)) := rfl
theorem zp_22 {s : zS} {pc : Nat} {lv : am_V} {v : Int32} {st : List Value} (hb : am_fi .boolean (.int v) = true) : am_put .boolean 9 4 pc lv (.int v :: .ref 32 :: st) (zH s) = some (pc + 3, lv, st, zH (zf s 22 v)) := by
  show (bif _ && (_ && am_fi .boolean (.int v)) then _ else _) = _
  rw [hb]
  rfl
theorem zp_23 {s : zS} {pc : Nat} {lv : am_V} {v : Int32} {st : List Value} : am_put .int 9 5 pc lv (.int v :: .ref 32 :: st) (zH s) = some (pc + 3, lv, st, zH (zf s 23 v)) := rfl
theorem zp_24 {s : zS} {pc : Nat} {lv : am_V} {v : Int32} {st : List Value} : am_put .int 9 12 pc lv (.int v :: .ref 32 :: st) (zH s) = some (pc + 3, lv, st, zH (zf s 24 v)) := rfl
theorem zp_25 {s : zS} {pc : Nat} {lv : am_V} {v : Int32} {st : List Value} : am_put .int 9 13 pc lv (.int v :: .ref 32 :: st) (zH s) = some (pc + 3, lv, st, zH (zf s 25 v)) := rfl
theorem zp_26 {s : zS} {pc : Nat} {lv : am_V} {v : Int32} {st : List Value} : am_put .int 9 14 pc lv (.int v :: .ref 32 :: st) (zH s) = some (pc + 3, lv, st, zH (zf s 26 v)) := rfl
theorem zp_27 {s : zS} {pc : Nat} {lv : am_V} {v : Int32} {st : List Value} : am_put .int 9 17 pc lv (.int v :: .ref 32 :: st) (zH s) = some (pc + 3, lv, st, zH (zf s 27 v)) := rfl
theorem zp_28 {s : zS} {pc : Nat} {lv : am_V} {v : Int32} {st : List Value} : am_put .int 9 18 pc lv (.int v :: .ref 32 :: st) (zH s) = some (pc + 3, lv, st, zH (zf s 28 v)) := rfl
theorem zp_29 {s : zS} {pc : Nat} {lv : am_V} {v : Int32} {st : List Value} : am_put .int 9 19 pc lv (.int v :: .ref 32 :: st) (zH s) = some (pc + 3, lv, st, zH (zf s 29 v)) := rfl
theorem zp_30 {s : zS} {pc : Nat} {lv : am_V} {v : Int32} {st : List Value} : am_put .int 9 20 pc lv (.int v :: .ref 32 :: st) (zH s) = some (pc + 3, lv, st, zH (zf s 30 v)) := rfl
theorem zp_31 {s : zS} {pc : Nat} {lv : am_V} {v : Int32} {st : List Value} : am_put .int 9 23 pc lv (.int v :: .ref 32 :: st) (zH s) = some (pc + 3, lv, st, zH (zf s 31 v)) := rfl
theorem zp_32 {s : zS} {pc : Nat} {lv : am_V} {v : Int32} {st : List Value} : am_put .int 9 31 pc lv (.int v :: .ref 32 :: st) (zH s) = some (pc + 3, lv, st, zH (zf s 32 v)) := rfl
theorem zp_33 {s : zS} {pc : Nat} {lv : am_V} {v : Int32} {st : List Value} : am_put .int 9 33 pc lv (.int v :: .ref 32 :: st) (zH s) = some (pc + 3, lv, st, zH (zf s 33 v)) := rfl
theorem zp_34 {s : zS} {pc : Nat} {lv : am_V} {v : Int32} {st : List Value} : am_put .int 9 34 pc lv (.int v :: .ref 32 :: st) (zH s) = some (pc + 3, lv, st, zH (zf s 34 v)) := rfl
theorem zh_2 (s : zS) (l : List Int32) : (zH s).set 2 (.inl (true, l)) = zH (za s 2 l) := rfl
theorem zh_4 (s : zS) (l : List Int32) : (zH s).set 4 (.inl (false, l)) = zH (za s 4 l) := rfl
theorem zh_5 (s : zS) (l : List Int32) : (zH s).set 5 (.inl (false, l)) = zH (za s 5 l) := rfl
theorem zh_6 (s : zS) (l : List Int32) : (zH s).set 6 (.inl (false, l)) = zH (za s 6 l) := rfl
theorem zh_7 (s : zS) (l : List Int32) : (zH s).set 7 (.inl (false, l)) = zH (za s 7 l) := rfl
theorem zh_9 (s : zS) (l : List Int32) : (zH s).set 9 (.inl (false, l)) = zH (za s 9 l) := rfl
theorem zh_10 (s : zS) (l : List Int32) : (zH s).set 10 (.inl (false, l)) = zH (za s 10 l) := rfl
theorem zh_12 (s : zS) (l : List Int32) : (zH s).set 12 (.inl (false, l)) = zH (za s 12 l) := rfl
theorem zh_13 (s : zS) (l : List Int32) : (zH s).set 13 (.inl (false, l)) = zH (za s 13 l) := rfl
theorem zh_14 (s : zS) (l : List Int32) : (zH s).set 14 (.inl (false, l)) = zH (za s 14 l) := rfl
theorem zh_16 (s : zS) (l : List Int32) : (zH s).set 16 (.inl (false, l)) = zH (za s 16 l) := rfl
theorem zh_17 (s : zS) (l : List Int32) : (zH s).set 17 (.inl (false, l)) = zH (za s 17 l) := rfl
theorem zh_18 (s : zS) (l : List Int32) : (zH s).set 18 (.inl (false, l)) = zH (za s 18 l) := rfl
theorem zh_19 (s : zS) (l : List Int32) : (zH s).set 19 (.inl (false, l)) = zH (za s 19 l) := rfl
theorem zh_20 (s : zS) (l : List Int32) : (zH s).set 20 (.inl (false, l)) = zH (za s 20 l) := rfl
theorem zh_21 (s : zS) (l : List Int32) : (zH s).set 21 (.inl (false, l)) = zH (za s 21 l) := rfl
theorem zh_22 (s : zS) (l : List Int32) : (zH s).set 22 (.inl (false, l)) = zH (za s 22 l) := rfl
theorem zh_23 (s : zS) (l : List Int32) : (zH s).set 23 (.inl (false, l)) = zH (za s 23 l) := rfl
theorem zh_27 (s : zS) (l : List Int32) : (zH s).set 27 (.inl (true, l)) = zH (za s 27 l) := rfl
theorem zh_28 (s : zS) (l : List Int32) : (zH s).set 28 (.inl (false, l)) = zH (za s 28 l) := rfl
theorem zh_29 (s : zS) (l : List Int32) : (zH s).set 29 (.inl (false, l)) = zH (za s 29 l) := rfl
theorem zh_31 (s : zS) (l : List Int32) : (zH s).set 31 (.inl (false, l)) = zH (za s 31 l) := rfl
theorem zh_32 (s : zS) (l : List Int32) : (zH s).set 32 (.inl (false, l)) = zH (za s 32 l) := rfl
theorem zh_33 (s : zS) (l : List Int32) : (zH s).set 33 (.inl (false, l)) = zH (za s 33 l) := rfl
theorem zh_34 (s : zS) (l : List Int32) : (zH s).set 34 (.inl (false, l)) = zH (za s 34 l) := rfl
theorem zh_35 (s : zS) (l : List Int32) : (zH s).set 35 (.inl (false, l)) = zH (za s 35 l) := rfl
theorem zh_36 (s : zS) (l : List Int32) : (zH s).set 36 (.inl (false, l)) = zH (za s 36 l) := rfl
theorem zh_37 (s : zS) (l : List Int32) : (zH s).set 37 (.inl (false, l)) = zH (za s 37 l) := rfl
theorem zh_38 (s : zS) (l : List Int32) : (zH s).set 38 (.inl (false, l)) = zH (za s 38 l) := rfl
theorem zh_39 (s : zS) (l : List Int32) : (zH s).set 39 (.inl (false, l)) = zH (za s 39 l) := rfl
theorem zh_40 (s : zS) (l : List Int32) : (zH s).set 40 (.inl (false, l)) = zH (za s 40 l) := rfl
theorem zh_41 (s : zS) (l : List Int32) : (zH s).set 41 (.inl (false, l)) = zH (za s 41 l) := rfl
theorem zh_42 (s : zS) (l : List Int32) : (zH s).set 42 (.inl (false, l)) = zH (za s 42 l) := rfl
theorem zh_43 (s : zS) (l : List Int32) : (zH s).set 43 (.inl (false, l)) = zH (za s 43 l) := rfl
theorem zh_44 (s : zS) (l : List Int32) : (zH s).set 44 (.inl (false, l)) = zH (za s 44 l) := rfl
theorem zh_45 (s : zS) (l : List Int32) : (zH s).set 45 (.inl (false, l)) = zH (za s 45 l) := rfl
theorem zh_46 (s : zS) (l : List Int32) : (zH s).set 46 (.inl (false, l)) = zH (za s 46 l) := rfl
theorem zh_47 (s : zS) (l : List Int32) : (zH s).set 47 (.inl (false, l)) = zH (za s 47 l) := rfl
theorem zh_48 (s : zS) (l : List Int32) : (zH s).set 48 (.inl (false, l)) = zH (za s 48 l) := rfl
theorem zh_49 (s : zS) (l : List Int32) : (zH s).set 49 (.inl (false, l)) = zH (za s 49 l) := rfl
theorem zh_50 (s : zS) (l : List Int32) : (zH s).set 50 (.inl (false, l)) = zH (za s 50 l) := rfl
theorem zh_51 (s : zS) (l : List Int32) : (zH s).set 51 (.inl (false, l)) = zH (za s 51 l) := rfl
theorem zh_52 (s : zS) (l : List Int32) : (zH s).set 52 (.inl (false, l)) = zH (za s 52 l) := rfl
theorem zh_53 (s : zS) (l : List Int32) : (zH s).set 53 (.inl (false, l)) = zH (za s 53 l) := rfl
end
section
set_option maxRecDepth 100000 in
theorem vc_24_0 (xs : Option (List Int32)) (d : Nat) (s : zS) (a1 : Int32) (a2 : Int32) (Q : zS → Prop) (h : zWv xs d 24 2 [(0, .ref 10), (1, .int a1), (2, .int a2), (3, .int 0)] s Q) : zWv xs d 24 0 [(0, .ref 10), (1, .int a1), (2, .int a2)] s Q := by
  unfold zWv
  refine am_wh 2 (pc1 := 2) (lv1 := [(3, .int 0), (0, .ref 10), (1, .int a1), (2, .int a2)]) (st1 := []) rfl ?_
  exact am_wm h ⟨rfl, rfl, rfl, rfl, trivial⟩
set_option maxRecDepth 100000 in
theorem vc_24_2 (xs : Option (List Int32)) (d : Nat) (s : zS) (a1 : Int32) (a2 : Int32) (a3 : Int32) (Q : zS → Prop) (h : (a3.toInt < (s.1 5).toInt → (zX (s.2 9) a3.toInt ∧ ((zg (s.2 9) a3.toInt).toInt = a1.toInt → (zX (s.2 10) a3.toInt ∧ ((zg (s.2 10) a3.toInt).toInt = a2.toInt → (Q s)) ∧ (¬ (zg (s.2 10) a3.toInt).toInt = a2.toInt → (zWv xs d 24 2 [(0, .ref 10), (1, .int a1), (2, .int a2), (3, .int (a3 + 1))] s Q)))) ∧ (¬ (zg (s.2 9) a3.toInt).toInt = a1.toInt → (zWv xs d 24 2 [(0, .ref 10), (1, .int a1), (2, .int a2), (3, .int (a3 + 1))] s Q)))) ∧ (¬ a3.toInt < (s.1 5).toInt → (((s.1 5).toInt < 204 → (zX (s.2 9) (s.1 5).toInt ∧ zX (s.2 10) (s.1 5).toInt ∧ Q (zf (za (za s 9 (zu (s.2 9) (s.1 5).toInt a1)) 10 (zu (s.2 10) (s.1 5).toInt a2)) 5 ((s.1 5) + 1)))) ∧ (¬ (s.1 5).toInt < 204 → (Q s))))) : zWv xs d 24 2 [(0, .ref 10), (1, .int a1), (2, .int a2), (3, .int a3)] s Q := by
  unfold zWv
  refine am_wh 3 (pc1 := 7) (lv1 := [(0, .ref 10), (1, .int a1), (2, .int a2), (3, .int a3)]) (st1 := [.int (s.1 5), .int a3]) rfl ?_
  obtain ⟨h2, h3⟩ := h
  by_cases c1 : a3.toInt < (s.1 5).toInt
  · refine am_wb2 rfl false (zn_ge (zq_a _) (zq_a _) (zr_t _) (zr_t _) c1) rfl ?_
    have h4 := h2 c1
    refine am_wh 3 (pc1 := 15) (lv1 := [(0, .ref 10), (1, .int a1), (2, .int a2), (3, .int a3)]) (st1 := [.int a3, .ref 11]) rfl ?_
    obtain ⟨o5, h6⟩ := h4
    refine zw_li (l := (s.2 9)) (i := a3.toInt) rfl rfl (zq_a _) o5 ?_
    refine am_wh 1 (pc1 := 17) (lv1 := [(0, .ref 10), (1, .int a1), (2, .int a2), (3, .int a3)]) (st1 := [.int a1, .int (zg (s.2 9) a3.toInt)]) rfl ?_
    obtain ⟨h8, h9⟩ := h6
    by_cases c7 : (zg (s.2 9) a3.toInt).toInt = a1.toInt
    · refine am_wb2 rfl false (zn_ne (zq_a _) (zq_a _) (zr_t _) (zr_t _) c7) rfl ?_
      have h10 := h8 c7
      refine am_wh 3 (pc1 := 25) (lv1 := [(0, .ref 10), (1, .int a1), (2, .int a2), (3, .int a3)]) (st1 := [.int a3, .ref 12]) rfl ?_
      obtain ⟨o11, h12⟩ := h10
      refine zw_li (l := (s.2 10)) (i := a3.toInt) rfl rfl (zq_a _) o11 ?_
      refine am_wh 1 (pc1 := 27) (lv1 := [(0, .ref 10), (1, .int a1), (2, .int a2), (3, .int a3)]) (st1 := [.int a2, .int (zg (s.2 10) a3.toInt)]) rfl ?_
      obtain ⟨h14, h15⟩ := h12
      by_cases c13 : (zg (s.2 10) a3.toInt).toInt = a2.toInt
      · refine am_wb2 rfl false (zn_ne (zq_a _) (zq_a _) (zr_t _) (zr_t _) c13) rfl ?_
        have h16 := h14 c13
        refine am_wr rfl rfl rfl ?_
        exact ⟨_, rfl, rfl, h16⟩
      · refine am_wb2 rfl true (zt_ne (zq_a _) (zq_a _) (zr_t _) (zr_t _) c13) rfl ?_
        have h17 := h15 c13
        refine am_wh 2 (pc1 := 2) (lv1 := [(3, .int (a3 + 1)), (0, .ref 10), (1, .int a1), (2, .int a2)]) (st1 := []) rfl ?_
        exact am_wm h17 ⟨rfl, rfl, rfl, rfl, trivial⟩
    · refine am_wb2 rfl true (zt_ne (zq_a _) (zq_a _) (zr_t _) (zr_t _) c7) rfl ?_
      have h18 := h9 c7
      refine am_wh 2 (pc1 := 2) (lv1 := [(3, .int (a3 + 1)), (0, .ref 10), (1, .int a1), (2, .int a2)]) (st1 := []) rfl ?_
      exact am_wm h18 ⟨rfl, rfl, rfl, rfl, trivial⟩
  · refine am_wb2 rfl true (zt_ge (zq_a _) (zq_a _) (zr_t _) (zr_t _) c1) rfl ?_
    have h19 := h3 c1
    refine am_wh 3 (pc1 := 44) (lv1 := [(0, .ref 10), (1, .int a1), (2, .int a2), (3, .int a3)]) (st1 := [.int 204, .int (s.1 5)]) rfl ?_
    obtain ⟨h21, h22⟩ := h19
    by_cases c20 : (s.1 5).toInt < 204
    · refine am_wb2 rfl false (zn_ge (zq_a _) (by decide) (zr_t _) ⟨by decide, by decide⟩ c20) rfl ?_
      have h23 := h21 c20
      refine am_wh 5 (pc1 := 56) (lv1 := [(0, .ref 10), (1, .int a1), (2, .int a2), (3, .int a3)]) (st1 := [.int a1, .int (s.1 5), .ref 11]) rfl ?_
      obtain ⟨o24, h25⟩ := h23
      refine zw_si (l := (s.2 9)) (i := (s.1 5).toInt) rfl rfl (zq_a _) o24 (zh_9 _ _) ?_
      refine am_wh 5 (pc1 := 66) (lv1 := [(0, .ref 10), (1, .int a1), (2, .int a2), (3, .int a3)]) (st1 := [.int a2, .int (s.1 5), .ref 12]) rfl ?_
      obtain ⟨o26, h27⟩ := h25
      refine zw_si (l := (s.2 10)) (i := (s.1 5).toInt) rfl rfl (zq_a _) o26 (zh_10 _ _) ?_
      refine am_wh 5 (pc1 := 74) (lv1 := [(0, .ref 10), (1, .int a1), (2, .int a2), (3, .int a3)]) (st1 := [.int ((s.1 5) + 1), .ref 10]) rfl ?_
      refine am_w0 (z := (77, [(0, .ref 10), (1, .int a1), (2, .int a2), (3, .int a3)], [], zH (zf (za (za s 9 (zu (s.2 9) (s.1 5).toInt a1)) 10 (zu (s.2 10) (s.1 5).toInt a2)) 5 ((s.1 5) + 1)))) rfl rfl (zp_5 ) ?_
      refine am_wr rfl rfl rfl ?_
      exact ⟨_, rfl, rfl, h27⟩
    · refine am_wb2 rfl true (zt_ge (zq_a _) (by decide) (zr_t _) ⟨by decide, by decide⟩ c20) rfl ?_
      have h28 := h22 c20
      refine am_wr rfl rfl rfl ?_
      exact ⟨_, rfl, rfl, h28⟩
set_option maxRecDepth 100000 in
theorem vc_25_0 (xs : Option (List Int32)) (d : Nat) (s : zS) (a1 : Int32) (a2 : Int32) (Q : Int32 → zS → Prop) (h : zWi xs (d + 1) 25 2 [(0, .ref 10), (1, .int a1), (2, .int a2), (3, .int 0)] s Q) : zWi xs (d + 1) 25 0 [(0, .ref 10), (1, .int a1), (2, .int a2)] s Q := by
  unfold zWi
  refine am_wh 2 (pc1 := 2) (lv1 := [(3, .int 0), (0, .ref 10), (1, .int a1), (2, .int a2)]) (st1 := []) rfl ?_
  exact am_wm h ⟨rfl, rfl, rfl, rfl, trivial⟩
set_option maxRecDepth 100000 in
theorem vc_25_2 (xs : Option (List Int32)) (d : Nat) (s : zS) (a1 : Int32) (a2 : Int32) (a3 : Int32) (Q : Int32 → zS → Prop) (h : (a3.toInt < (s.1 5).toInt → (zWi xs d 27 0 [(0, .ref 10), (1, .int a3), (2, .int a1)] s (fun v7 s5 => (v7.toInt = 0 → (zWi xs (d + 1) 25 2 [(0, .ref 10), (1, .int a1), (2, .int a2), (3, .int (a3 + 1))] s5 Q)) ∧ (¬ v7.toInt = 0 → (zWi xs d 26 0 [(0, .ref 10), (1, .int a3), (2, .int a1)] s5 (fun v15 s13 => (v15.toInt = a2.toInt → (zX (s13.2 9) a3.toInt ∧ zX (s13.2 10) a3.toInt ∧ Q ((zg (s13.2 9) a3.toInt) + (256 * (zg (s13.2 10) a3.toInt))) s13)) ∧ (¬ v15.toInt = a2.toInt → (zWi xs (d + 1) 25 2 [(0, .ref 10), (1, .int a1), (2, .int a2), (3, .int (a3 + 1))] s13 Q)))))))) ∧ (¬ a3.toInt < (s.1 5).toInt → (Q (-1) s))) : zWi xs (d + 1) 25 2 [(0, .ref 10), (1, .int a1), (2, .int a2), (3, .int a3)] s Q := by
  unfold zWi
  refine am_wh 3 (pc1 := 7) (lv1 := [(0, .ref 10), (1, .int a1), (2, .int a2), (3, .int a3)]) (st1 := [.int (s.1 5), .int a3]) rfl ?_
  obtain ⟨h2, h3⟩ := h
  by_cases c1 : a3.toInt < (s.1 5).toInt
  · refine am_wb2 rfl false (zn_ge (zq_a _) (zq_a _) (zr_t _) (zr_t _) c1) rfl ?_
    have h4 := h2 c1
    refine am_wh 3 (pc1 := 13) (lv1 := [(0, .ref 10), (1, .int a1), (2, .int a2), (3, .int a3)]) (st1 := [.int a1, .int a3, .ref 10]) rfl ?_
    refine am_wc rfl rfl rfl ?_
    refine am_ww h4 ?_
    rintro _ _ ⟨v7, s5, rfl, rfl, h6⟩
    show am_W _ _ 25 16 [(0, .ref 10), (1, .int a1), (2, .int a2), (3, .int a3)] [.int v7] (zH s5) _
    obtain ⟨h9, h10⟩ := h6
    by_cases c8 : v7.toInt = 0
    · refine am_wb1 rfl true (zt_eq (zq_a _) (by decide) (zr_t _) ⟨by decide, by decide⟩ c8) rfl ?_
      have h11 := h9 c8
      refine am_wh 2 (pc1 := 2) (lv1 := [(3, .int (a3 + 1)), (0, .ref 10), (1, .int a1), (2, .int a2)]) (st1 := []) rfl ?_
      exact am_wm h11 ⟨rfl, rfl, rfl, rfl, trivial⟩
    · refine am_wb1 rfl false (zn_eq (zq_a _) (by decide) (zr_t _) ⟨by decide, by decide⟩ c8) rfl ?_
      have h12 := h10 c8
      refine am_wh 3 (pc1 := 22) (lv1 := [(0, .ref 10), (1, .int a1), (2, .int a2), (3, .int a3)]) (st1 := [.int a1, .int a3, .ref 10]) rfl ?_
      refine am_wc rfl rfl rfl ?_
      refine am_ww h12 ?_
      rintro _ _ ⟨v15, s13, rfl, rfl, h14⟩
      show am_W _ _ 25 25 [(0, .ref 10), (1, .int a1), (2, .int a2), (3, .int a3)] [.int v15] (zH s13) _
      refine am_wh 1 (pc1 := 26) (lv1 := [(0, .ref 10), (1, .int a1), (2, .int a2), (3, .int a3)]) (st1 := [.int a2, .int v15]) rfl ?_
      obtain ⟨h17, h18⟩ := h14
      by_cases c16 : v15.toInt = a2.toInt
      · refine am_wb2 rfl false (zn_ne (zq_a _) (zq_a _) (zr_t _) (zr_t _) c16) rfl ?_
        have h19 := h17 c16
        refine am_wh 3 (pc1 := 34) (lv1 := [(0, .ref 10), (1, .int a1), (2, .int a2), (3, .int a3)]) (st1 := [.int a3, .ref 11]) rfl ?_
        obtain ⟨o20, h21⟩ := h19
        refine zw_li (l := (s13.2 9)) (i := a3.toInt) rfl rfl (zq_a _) o20 ?_
        refine am_wh 4 (pc1 := 43) (lv1 := [(0, .ref 10), (1, .int a1), (2, .int a2), (3, .int a3)]) (st1 := [.int a3, .ref 12, .int 256, .int (zg (s13.2 9) a3.toInt)]) rfl ?_
        obtain ⟨o22, h23⟩ := h21
        refine zw_li (l := (s13.2 10)) (i := a3.toInt) rfl rfl (zq_a _) o22 ?_
        refine am_wh 2 (pc1 := 46) (lv1 := [(0, .ref 10), (1, .int a1), (2, .int a2), (3, .int a3)]) (st1 := [.int ((zg (s13.2 9) a3.toInt) + (256 * (zg (s13.2 10) a3.toInt)))]) rfl ?_
        refine am_wr rfl rfl rfl ?_
        exact ⟨_, _, rfl, rfl, h23⟩
      · refine am_wb2 rfl true (zt_ne (zq_a _) (zq_a _) (zr_t _) (zr_t _) c16) rfl ?_
        have h24 := h18 c16
        refine am_wh 2 (pc1 := 2) (lv1 := [(3, .int (a3 + 1)), (0, .ref 10), (1, .int a1), (2, .int a2)]) (st1 := []) rfl ?_
        exact am_wm h24 ⟨rfl, rfl, rfl, rfl, trivial⟩
  · refine am_wb2 rfl true (zt_ge (zq_a _) (zq_a _) (zr_t _) (zr_t _) c1) rfl ?_
    have h25 := h3 c1
    refine am_wh 1 (pc1 := 54) (lv1 := [(0, .ref 10), (1, .int a1), (2, .int a2), (3, .int a3)]) (st1 := [.int (-1)]) rfl ?_
    refine am_wr rfl rfl rfl ?_
    exact ⟨_, _, rfl, rfl, h25⟩
set_option maxRecDepth 100000 in
theorem vc_26_0 (xs : Option (List Int32)) (d : Nat) (s : zS) (a1 : Int32) (a2 : Int32) (Q : Int32 → zS → Prop) (h : zWi xs (d + 1) 26 5 [(0, .ref 10), (1, .int a1), (2, .int a2), (3, .int 0), (4, .int 0)] s Q) : zWi xs (d + 1) 26 0 [(0, .ref 10), (1, .int a1), (2, .int a2)] s Q := by
  unfold zWi
  refine am_wh 4 (pc1 := 5) (lv1 := [(4, .int 0), (3, .int 0), (0, .ref 10), (1, .int a1), (2, .int a2)]) (st1 := []) rfl ?_
  exact am_wm h ⟨rfl, rfl, rfl, rfl, rfl, trivial⟩
set_option maxRecDepth 100000 in
theorem vc_26_5 (xs : Option (List Int32)) (d : Nat) (s : zS) (a1 : Int32) (a2 : Int32) (a3 : Int32) (a4 : Int32) (Q : Int32 → zS → Prop) (h : (a4.toInt < (s.1 5).toInt → (zWi xs d 27 0 [(0, .ref 10), (1, .int a4), (2, .int a2)] s (fun v7 s5 => (v7.toInt = 0 → (zWi xs (d + 1) 26 5 [(0, .ref 10), (1, .int a1), (2, .int a2), (3, .int a3), (4, .int (a4 + 1))] s5 Q)) ∧ (¬ v7.toInt = 0 → (zX (s5.2 10) a4.toInt ∧ zX (s5.2 9) a4.toInt ∧ zX (s5.2 10) a1.toInt ∧ zX (s5.2 9) a1.toInt ∧ zR ((zg (s5.2 10) a4.toInt).toInt - (zg (s5.2 9) a4.toInt).toInt) ∧ zR ((zg (s5.2 10) a1.toInt).toInt - (zg (s5.2 9) a1.toInt).toInt) ∧ (((zg (s5.2 10) a4.toInt).toInt - (zg (s5.2 9) a4.toInt).toInt) < ((zg (s5.2 10) a1.toInt).toInt - (zg (s5.2 9) a1.toInt).toInt) → (zWi xs (d + 1) 26 5 [(0, .ref 10), (1, .int a1), (2, .int a2), (3, .int (a3 + 1)), (4, .int (a4 + 1))] s5 Q)) ∧ (¬ ((zg (s5.2 10) a4.toInt).toInt - (zg (s5.2 9) a4.toInt).toInt) < ((zg (s5.2 10) a1.toInt).toInt - (zg (s5.2 9) a1.toInt).toInt) → (zWi xs (d + 1) 26 5 [(0, .ref 10), (1, .int a1), (2, .int a2), (3, .int a3), (4, .int (a4 + 1))] s5 Q))))))) ∧ (¬ a4.toInt < (s.1 5).toInt → (Q a3 s))) : zWi xs (d + 1) 26 5 [(0, .ref 10), (1, .int a1), (2, .int a2), (3, .int a3), (4, .int a4)] s Q := by
  unfold zWi
  refine am_wh 3 (pc1 := 11) (lv1 := [(0, .ref 10), (1, .int a1), (2, .int a2), (3, .int a3), (4, .int a4)]) (st1 := [.int (s.1 5), .int a4]) rfl ?_
  obtain ⟨h2, h3⟩ := h
  by_cases c1 : a4.toInt < (s.1 5).toInt
  · refine am_wb2 rfl false (zn_ge (zq_a _) (zq_a _) (zr_t _) (zr_t _) c1) rfl ?_
    have h4 := h2 c1
    refine am_wh 3 (pc1 := 18) (lv1 := [(0, .ref 10), (1, .int a1), (2, .int a2), (3, .int a3), (4, .int a4)]) (st1 := [.int a2, .int a4, .ref 10]) rfl ?_
    refine am_wc rfl rfl rfl ?_
    refine am_ww h4 ?_
    rintro _ _ ⟨v7, s5, rfl, rfl, h6⟩
    show am_W _ _ 26 21 [(0, .ref 10), (1, .int a1), (2, .int a2), (3, .int a3), (4, .int a4)] [.int v7] (zH s5) _
    obtain ⟨h9, h10⟩ := h6
    by_cases c8 : v7.toInt = 0
    · refine am_wb1 rfl true (zt_eq (zq_a _) (by decide) (zr_t _) ⟨by decide, by decide⟩ c8) rfl ?_
      have h11 := h9 c8
      refine am_wh 2 (pc1 := 5) (lv1 := [(4, .int (a4 + 1)), (0, .ref 10), (1, .int a1), (2, .int a2), (3, .int a3)]) (st1 := []) rfl ?_
      exact am_wm h11 ⟨rfl, rfl, rfl, rfl, rfl, trivial⟩
    · refine am_wb1 rfl false (zn_eq (zq_a _) (by decide) (zr_t _) ⟨by decide, by decide⟩ c8) rfl ?_
      have h12 := h10 c8
      refine am_wh 3 (pc1 := 30) (lv1 := [(0, .ref 10), (1, .int a1), (2, .int a2), (3, .int a3), (4, .int a4)]) (st1 := [.int a4, .ref 12]) rfl ?_
      obtain ⟨o13, h14⟩ := h12
      refine zw_li (l := (s5.2 10)) (i := a4.toInt) rfl rfl (zq_a _) o13 ?_
      refine am_wh 3 (pc1 := 37) (lv1 := [(0, .ref 10), (1, .int a1), (2, .int a2), (3, .int a3), (4, .int a4)]) (st1 := [.int a4, .ref 11, .int (zg (s5.2 10) a4.toInt)]) rfl ?_
      obtain ⟨o15, h16⟩ := h14
      refine zw_li (l := (s5.2 9)) (i := a4.toInt) rfl rfl (zq_a _) o15 ?_
      refine am_wh 4 (pc1 := 44) (lv1 := [(0, .ref 10), (1, .int a1), (2, .int a2), (3, .int a3), (4, .int a4)]) (st1 := [.int a1, .ref 12, .int ((zg (s5.2 10) a4.toInt) - (zg (s5.2 9) a4.toInt))]) rfl ?_
      obtain ⟨o17, h18⟩ := h16
      refine zw_li (l := (s5.2 10)) (i := a1.toInt) rfl rfl (zq_a _) o17 ?_
      refine am_wh 3 (pc1 := 50) (lv1 := [(0, .ref 10), (1, .int a1), (2, .int a2), (3, .int a3), (4, .int a4)]) (st1 := [.int a1, .ref 11, .int (zg (s5.2 10) a1.toInt), .int ((zg (s5.2 10) a4.toInt) - (zg (s5.2 9) a4.toInt))]) rfl ?_
      obtain ⟨o19, h20⟩ := h18
      refine zw_li (l := (s5.2 9)) (i := a1.toInt) rfl rfl (zq_a _) o19 ?_
      refine am_wh 1 (pc1 := 52) (lv1 := [(0, .ref 10), (1, .int a1), (2, .int a2), (3, .int a3), (4, .int a4)]) (st1 := [.int ((zg (s5.2 10) a1.toInt) - (zg (s5.2 9) a1.toInt)), .int ((zg (s5.2 10) a4.toInt) - (zg (s5.2 9) a4.toInt))]) rfl ?_
      obtain ⟨o21, h22⟩ := h20
      obtain ⟨o23, h24⟩ := h22
      obtain ⟨h26, h27⟩ := h24
      by_cases c25 : ((zg (s5.2 10) a4.toInt).toInt - (zg (s5.2 9) a4.toInt).toInt) < ((zg (s5.2 10) a1.toInt).toInt - (zg (s5.2 9) a1.toInt).toInt)
      · refine am_wb2 rfl false (zn_ge (zq_sub (zq_a _) (zq_a _)) (zq_sub (zq_a _) (zq_a _)) o21 o23 c25) rfl ?_
        have h28 := h26 c25
        refine am_wh 3 (pc1 := 5) (lv1 := [(4, .int (a4 + 1)), (3, .int (a3 + 1)), (0, .ref 10), (1, .int a1), (2, .int a2)]) (st1 := []) rfl ?_
        exact am_wm h28 ⟨rfl, rfl, rfl, rfl, rfl, trivial⟩
      · refine am_wb2 rfl true (zt_ge (zq_sub (zq_a _) (zq_a _)) (zq_sub (zq_a _) (zq_a _)) o21 o23 c25) rfl ?_
        have h29 := h27 c25
        refine am_wh 2 (pc1 := 5) (lv1 := [(4, .int (a4 + 1)), (0, .ref 10), (1, .int a1), (2, .int a2), (3, .int a3)]) (st1 := []) rfl ?_
        exact am_wm h29 ⟨rfl, rfl, rfl, rfl, rfl, trivial⟩
  · refine am_wb2 rfl true (zt_ge (zq_a _) (zq_a _) (zr_t _) (zr_t _) c1) rfl ?_
    have h30 := h3 c1
    refine am_wh 1 (pc1 := 65) (lv1 := [(0, .ref 10), (1, .int a1), (2, .int a2), (3, .int a3), (4, .int a4)]) (st1 := [.int a3]) rfl ?_
    refine am_wr rfl rfl rfl ?_
    exact ⟨_, _, rfl, rfl, h30⟩
set_option maxRecDepth 100000 in
theorem vc_27_0 (xs : Option (List Int32)) (d : Nat) (s : zS) (a1 : Int32) (a2 : Int32) (Q : Int32 → zS → Prop) (h : zX (s.2 9) a1.toInt ∧ (a2.toInt < (zg (s.2 9) a1.toInt).toInt → (Q 0 s)) ∧ (¬ a2.toInt < (zg (s.2 9) a1.toInt).toInt → (zX (s.2 10) a1.toInt ∧ (a2.toInt < (zg (s.2 10) a1.toInt).toInt → (Q 1 s)) ∧ (¬ a2.toInt < (zg (s.2 10) a1.toInt).toInt → (Q 0 s))))) : zWi xs d 27 0 [(0, .ref 10), (1, .int a1), (2, .int a2)] s Q := by
  unfold zWi
  refine am_wh 3 (pc1 := 5) (lv1 := [(0, .ref 10), (1, .int a1), (2, .int a2)]) (st1 := [.int a1, .ref 11]) rfl ?_
  obtain ⟨o1, h2⟩ := h
  refine zw_li (l := (s.2 9)) (i := a1.toInt) rfl rfl (zq_a _) o1 ?_
  refine am_wh 1 (pc1 := 7) (lv1 := [(0, .ref 10), (1, .int a1), (2, .int a2)]) (st1 := [.int a2, .int (zg (s.2 9) a1.toInt)]) rfl ?_
  obtain ⟨h4, h5⟩ := h2
  by_cases c3 : a2.toInt < (zg (s.2 9) a1.toInt).toInt
  · refine am_wb2 rfl true (zt_gt (zq_a _) (zq_a _) (zr_t _) (zr_t _) c3) rfl ?_
    have h6 := h4 c3
    refine am_wh 1 (pc1 := 25) (lv1 := [(0, .ref 10), (1, .int a1), (2, .int a2)]) (st1 := [.int 0]) rfl ?_
    refine am_wr rfl rfl rfl ?_
    exact ⟨_, _, rfl, rfl, h6⟩
  · refine am_wb2 rfl false (zn_gt (zq_a _) (zq_a _) (zr_t _) (zr_t _) c3) rfl ?_
    have h7 := h5 c3
    refine am_wh 4 (pc1 := 16) (lv1 := [(0, .ref 10), (1, .int a1), (2, .int a2)]) (st1 := [.int a1, .ref 12, .int a2]) rfl ?_
    obtain ⟨o8, h9⟩ := h7
    refine zw_li (l := (s.2 10)) (i := a1.toInt) rfl rfl (zq_a _) o8 ?_
    obtain ⟨h11, h12⟩ := h9
    by_cases c10 : a2.toInt < (zg (s.2 10) a1.toInt).toInt
    · refine am_wb2 rfl false (zn_ge (zq_a _) (zq_a _) (zr_t _) (zr_t _) c10) rfl ?_
      have h13 := h11 c10
      refine am_wh 2 (pc1 := 25) (lv1 := [(0, .ref 10), (1, .int a1), (2, .int a2)]) (st1 := [.int 1]) rfl ?_
      refine am_wr rfl rfl rfl ?_
      exact ⟨_, _, rfl, rfl, h13⟩
    · refine am_wb2 rfl true (zt_ge (zq_a _) (zq_a _) (zr_t _) (zr_t _) c10) rfl ?_
      have h14 := h12 c10
      refine am_wh 1 (pc1 := 25) (lv1 := [(0, .ref 10), (1, .int a1), (2, .int a2)]) (st1 := [.int 0]) rfl ?_
      refine am_wr rfl rfl rfl ?_
      exact ⟨_, _, rfl, rfl, h14⟩
set_option maxRecDepth 100000 in
theorem vc_69_0 (xs : Option (List Int32)) (d : Nat) (s : zS)  (Q : zS → Prop) (h : zWi xs d 70 0 [(0, .ref 13), (1, .int 0), (2, .int 0)] (zf s 6 0) (fun v3 s1 => Q s1)) : zWv xs (d + 1) 69 0 [(0, .ref 13)] s Q := by
  unfold zWv
  refine am_wh 2 (pc1 := 2) (lv1 := [(0, .ref 13)]) (st1 := [.int 0, .ref 13]) rfl ?_
  refine am_w0 (z := (5, [(0, .ref 13)], [], zH (zf s 6 0))) rfl rfl (zp_6 ) ?_
  refine am_wh 3 (pc1 := 8) (lv1 := [(0, .ref 13)]) (st1 := [.int 0, .int 0, .ref 13]) rfl ?_
  refine am_wc rfl rfl rfl ?_
  refine am_ww h ?_
  rintro _ _ ⟨v3, s1, rfl, rfl, h2⟩
  show am_W _ _ 69 11 [(0, .ref 13)] [.int v3] (zH s1) _
  refine am_wh 1 (pc1 := 12) (lv1 := [(0, .ref 13)]) (st1 := []) rfl ?_
  refine am_wr rfl rfl rfl ?_
  exact ⟨_, rfl, rfl, h2⟩
set_option maxRecDepth 100000 in
theorem vc_70_0 (xs : Option (List Int32)) (d : Nat) (s : zS) (a1 : Int32) (a2 : Int32) (Q : Int32 → zS → Prop) (h : ((s.1 6).toInt < 32 → (zX (s.2 12) (s.1 6).toInt ∧ zX (s.2 13) (s.1 6).toInt ∧ zX (s.2 14) (s.1 6).toInt ∧ Q (((s.1 6) + 1) - 1) (zf (za (za (za s 12 (zu (s.2 12) (s.1 6).toInt a1)) 13 (zu (s.2 13) (s.1 6).toInt a2)) 14 (zu (s.2 14) (s.1 6).toInt (-1))) 6 ((s.1 6) + 1)))) ∧ (¬ (s.1 6).toInt < 32 → (Q a2 s))) : zWi xs d 70 0 [(0, .ref 13), (1, .int a1), (2, .int a2)] s Q := by
  unfold zWi
  refine am_wh 3 (pc1 := 6) (lv1 := [(0, .ref 13), (1, .int a1), (2, .int a2)]) (st1 := [.int 32, .int (s.1 6)]) rfl ?_
  obtain ⟨h2, h3⟩ := h
  by_cases c1 : (s.1 6).toInt < 32
  · refine am_wb2 rfl true (zt_lt (zq_a _) (by decide) (zr_t _) ⟨by decide, by decide⟩ c1) rfl ?_
    have h4 := h2 c1
    refine am_wh 5 (pc1 := 20) (lv1 := [(0, .ref 13), (1, .int a1), (2, .int a2)]) (st1 := [.int a1, .int (s.1 6), .ref 14]) rfl ?_
    obtain ⟨o5, h6⟩ := h4
    refine zw_si (l := (s.2 12)) (i := (s.1 6).toInt) rfl rfl (zq_a _) o5 (zh_12 _ _) ?_
    refine am_wh 5 (pc1 := 30) (lv1 := [(0, .ref 13), (1, .int a1), (2, .int a2)]) (st1 := [.int a2, .int (s.1 6), .ref 15]) rfl ?_
    obtain ⟨o7, h8⟩ := h6
    refine zw_si (l := (s.2 13)) (i := (s.1 6).toInt) rfl rfl (zq_a _) o7 (zh_13 _ _) ?_
    refine am_wh 5 (pc1 := 40) (lv1 := [(0, .ref 13), (1, .int a1), (2, .int a2)]) (st1 := [.int (-1), .int (s.1 6), .ref 16]) rfl ?_
    obtain ⟨o9, h10⟩ := h8
    refine zw_si (l := (s.2 14)) (i := (s.1 6).toInt) rfl rfl (zq_a _) o9 (zh_14 _ _) ?_
    refine am_wh 5 (pc1 := 48) (lv1 := [(0, .ref 13), (1, .int a1), (2, .int a2)]) (st1 := [.int ((s.1 6) + 1), .ref 13]) rfl ?_
    refine am_w0 (z := (51, [(0, .ref 13), (1, .int a1), (2, .int a2)], [], zH (zf (za (za (za s 12 (zu (s.2 12) (s.1 6).toInt a1)) 13 (zu (s.2 13) (s.1 6).toInt a2)) 14 (zu (s.2 14) (s.1 6).toInt (-1))) 6 ((s.1 6) + 1)))) rfl rfl (zp_6 ) ?_
    refine am_wh 4 (pc1 := 57) (lv1 := [(0, .ref 13), (1, .int a1), (2, .int a2)]) (st1 := [.int (((s.1 6) + 1) - 1)]) rfl ?_
    refine am_wr rfl rfl rfl ?_
    exact ⟨_, _, rfl, rfl, h10⟩
  · refine am_wb2 rfl false (zn_lt (zq_a _) (by decide) (zr_t _) ⟨by decide, by decide⟩ c1) rfl ?_
    have h11 := h3 c1
    refine am_wh 1 (pc1 := 10) (lv1 := [(0, .ref 13), (1, .int a1), (2, .int a2)]) (st1 := [.int a2]) rfl ?_
    refine am_wr rfl rfl rfl ?_
    exact ⟨_, _, rfl, rfl, h11⟩
set_option maxRecDepth 100000 in
theorem vc_71_0 (xs : Option (List Int32)) (d : Nat) (s : zS) (a1 : Int32) (Q : Int32 → zS → Prop) (h : (a1.toInt < 0 → (Q 0 s)) ∧ (¬ a1.toInt < 0 → ((a1.toInt < (s.1 6).toInt → (zX (s.2 12) a1.toInt ∧ Q (zg (s.2 12) a1.toInt) s)) ∧ (¬ a1.toInt < (s.1 6).toInt → (Q 0 s))))) : zWi xs d 71 0 [(0, .ref 13), (1, .int a1)] s Q := by
  unfold zWi
  refine am_wh 1 (pc1 := 1) (lv1 := [(0, .ref 13), (1, .int a1)]) (st1 := [.int a1]) rfl ?_
  obtain ⟨h2, h3⟩ := h
  by_cases c1 : a1.toInt < 0
  · refine am_wb1 rfl true (zt_lt (zq_a _) (by decide) (zr_t _) ⟨by decide, by decide⟩ c1) rfl ?_
    have h4 := h2 c1
    refine am_wh 1 (pc1 := 22) (lv1 := [(0, .ref 13), (1, .int a1)]) (st1 := [.int 0]) rfl ?_
    refine am_wr rfl rfl rfl ?_
    exact ⟨_, _, rfl, rfl, h4⟩
  · refine am_wb1 rfl false (zn_lt (zq_a _) (by decide) (zr_t _) ⟨by decide, by decide⟩ c1) rfl ?_
    have h5 := h3 c1
    refine am_wh 3 (pc1 := 9) (lv1 := [(0, .ref 13), (1, .int a1)]) (st1 := [.int (s.1 6), .int a1]) rfl ?_
    obtain ⟨h7, h8⟩ := h5
    by_cases c6 : a1.toInt < (s.1 6).toInt
    · refine am_wb2 rfl false (zn_ge (zq_a _) (zq_a _) (zr_t _) (zr_t _) c6) rfl ?_
      have h9 := h7 c6
      refine am_wh 3 (pc1 := 17) (lv1 := [(0, .ref 13), (1, .int a1)]) (st1 := [.int a1, .ref 14]) rfl ?_
      obtain ⟨o10, h11⟩ := h9
      refine zw_li (l := (s.2 12)) (i := a1.toInt) rfl rfl (zq_a _) o10 ?_
      refine am_wh 1 (pc1 := 22) (lv1 := [(0, .ref 13), (1, .int a1)]) (st1 := [.int (zg (s.2 12) a1.toInt)]) rfl ?_
      refine am_wr rfl rfl rfl ?_
      exact ⟨_, _, rfl, rfl, h11⟩
    · refine am_wb2 rfl true (zt_ge (zq_a _) (zq_a _) (zr_t _) (zr_t _) c6) rfl ?_
      have h12 := h8 c6
      refine am_wh 1 (pc1 := 22) (lv1 := [(0, .ref 13), (1, .int a1)]) (st1 := [.int 0]) rfl ?_
      refine am_wr rfl rfl rfl ?_
      exact ⟨_, _, rfl, rfl, h12⟩
set_option maxRecDepth 100000 in
theorem vc_72_0 (xs : Option (List Int32)) (d : Nat) (s : zS) (a1 : Int32) (Q : Int32 → zS → Prop) (h : (a1.toInt < 0 → (Q 0 s)) ∧ (¬ a1.toInt < 0 → ((a1.toInt < (s.1 6).toInt → (zX (s.2 13) a1.toInt ∧ Q (zg (s.2 13) a1.toInt) s)) ∧ (¬ a1.toInt < (s.1 6).toInt → (Q 0 s))))) : zWi xs d 72 0 [(0, .ref 13), (1, .int a1)] s Q := by
  unfold zWi
  refine am_wh 1 (pc1 := 1) (lv1 := [(0, .ref 13), (1, .int a1)]) (st1 := [.int a1]) rfl ?_
  obtain ⟨h2, h3⟩ := h
  by_cases c1 : a1.toInt < 0
  · refine am_wb1 rfl true (zt_lt (zq_a _) (by decide) (zr_t _) ⟨by decide, by decide⟩ c1) rfl ?_
    have h4 := h2 c1
    refine am_wh 1 (pc1 := 22) (lv1 := [(0, .ref 13), (1, .int a1)]) (st1 := [.int 0]) rfl ?_
    refine am_wr rfl rfl rfl ?_
    exact ⟨_, _, rfl, rfl, h4⟩
  · refine am_wb1 rfl false (zn_lt (zq_a _) (by decide) (zr_t _) ⟨by decide, by decide⟩ c1) rfl ?_
    have h5 := h3 c1
    refine am_wh 3 (pc1 := 9) (lv1 := [(0, .ref 13), (1, .int a1)]) (st1 := [.int (s.1 6), .int a1]) rfl ?_
    obtain ⟨h7, h8⟩ := h5
    by_cases c6 : a1.toInt < (s.1 6).toInt
    · refine am_wb2 rfl false (zn_ge (zq_a _) (zq_a _) (zr_t _) (zr_t _) c6) rfl ?_
      have h9 := h7 c6
      refine am_wh 3 (pc1 := 17) (lv1 := [(0, .ref 13), (1, .int a1)]) (st1 := [.int a1, .ref 15]) rfl ?_
      obtain ⟨o10, h11⟩ := h9
      refine zw_li (l := (s.2 13)) (i := a1.toInt) rfl rfl (zq_a _) o10 ?_
      refine am_wh 1 (pc1 := 22) (lv1 := [(0, .ref 13), (1, .int a1)]) (st1 := [.int (zg (s.2 13) a1.toInt)]) rfl ?_
      refine am_wr rfl rfl rfl ?_
      exact ⟨_, _, rfl, rfl, h11⟩
    · refine am_wb2 rfl true (zt_ge (zq_a _) (zq_a _) (zr_t _) (zr_t _) c6) rfl ?_
      have h12 := h8 c6
      refine am_wh 1 (pc1 := 22) (lv1 := [(0, .ref 13), (1, .int a1)]) (st1 := [.int 0]) rfl ?_
      refine am_wr rfl rfl rfl ?_
      exact ⟨_, _, rfl, rfl, h12⟩
set_option maxRecDepth 100000 in
theorem vc_73_0 (xs : Option (List Int32)) (d : Nat) (s : zS) (a1 : Int32) (Q : Int32 → zS → Prop) (h : (a1.toInt < 0 → (Q (-1) s)) ∧ (¬ a1.toInt < 0 → ((a1.toInt < (s.1 6).toInt → (zX (s.2 14) a1.toInt ∧ Q (zg (s.2 14) a1.toInt) s)) ∧ (¬ a1.toInt < (s.1 6).toInt → (Q (-1) s))))) : zWi xs d 73 0 [(0, .ref 13), (1, .int a1)] s Q := by
  unfold zWi
  refine am_wh 1 (pc1 := 1) (lv1 := [(0, .ref 13), (1, .int a1)]) (st1 := [.int a1]) rfl ?_
  obtain ⟨h2, h3⟩ := h
  by_cases c1 : a1.toInt < 0
  · refine am_wb1 rfl true (zt_lt (zq_a _) (by decide) (zr_t _) ⟨by decide, by decide⟩ c1) rfl ?_
    have h4 := h2 c1
    refine am_wh 1 (pc1 := 22) (lv1 := [(0, .ref 13), (1, .int a1)]) (st1 := [.int (-1)]) rfl ?_
    refine am_wr rfl rfl rfl ?_
    exact ⟨_, _, rfl, rfl, h4⟩
  · refine am_wb1 rfl false (zn_lt (zq_a _) (by decide) (zr_t _) ⟨by decide, by decide⟩ c1) rfl ?_
    have h5 := h3 c1
    refine am_wh 3 (pc1 := 9) (lv1 := [(0, .ref 13), (1, .int a1)]) (st1 := [.int (s.1 6), .int a1]) rfl ?_
    obtain ⟨h7, h8⟩ := h5
    by_cases c6 : a1.toInt < (s.1 6).toInt
    · refine am_wb2 rfl false (zn_ge (zq_a _) (zq_a _) (zr_t _) (zr_t _) c6) rfl ?_
      have h9 := h7 c6
      refine am_wh 3 (pc1 := 17) (lv1 := [(0, .ref 13), (1, .int a1)]) (st1 := [.int a1, .ref 16]) rfl ?_
      obtain ⟨o10, h11⟩ := h9
      refine zw_li (l := (s.2 14)) (i := a1.toInt) rfl rfl (zq_a _) o10 ?_
      refine am_wh 1 (pc1 := 22) (lv1 := [(0, .ref 13), (1, .int a1)]) (st1 := [.int (zg (s.2 14) a1.toInt)]) rfl ?_
      refine am_wr rfl rfl rfl ?_
      exact ⟨_, _, rfl, rfl, h11⟩
    · refine am_wb2 rfl true (zt_ge (zq_a _) (zq_a _) (zr_t _) (zr_t _) c6) rfl ?_
      have h12 := h8 c6
      refine am_wh 1 (pc1 := 22) (lv1 := [(0, .ref 13), (1, .int a1)]) (st1 := [.int (-1)]) rfl ?_
      refine am_wr rfl rfl rfl ?_
      exact ⟨_, _, rfl, rfl, h12⟩
set_option maxRecDepth 100000 in
theorem vc_74_0 (xs : Option (List Int32)) (d : Nat) (s : zS) (a1 : Int32) (a2 : Int32) (Q : zS → Prop) (h : (a1.toInt < 0 → (Q s)) ∧ (¬ a1.toInt < 0 → ((a1.toInt < (s.1 6).toInt → (zX (s.2 14) a1.toInt ∧ Q (za s 14 (zu (s.2 14) a1.toInt a2)))) ∧ (¬ a1.toInt < (s.1 6).toInt → (Q s))))) : zWv xs d 74 0 [(0, .ref 13), (1, .int a1), (2, .int a2)] s Q := by
  unfold zWv
  refine am_wh 1 (pc1 := 1) (lv1 := [(0, .ref 13), (1, .int a1), (2, .int a2)]) (st1 := [.int a1]) rfl ?_
  obtain ⟨h2, h3⟩ := h
  by_cases c1 : a1.toInt < 0
  · refine am_wb1 rfl true (zt_lt (zq_a _) (by decide) (zr_t _) ⟨by decide, by decide⟩ c1) rfl ?_
    have h4 := h2 c1
    refine am_wr rfl rfl rfl ?_
    exact ⟨_, rfl, rfl, h4⟩
  · refine am_wb1 rfl false (zn_lt (zq_a _) (by decide) (zr_t _) ⟨by decide, by decide⟩ c1) rfl ?_
    have h5 := h3 c1
    refine am_wh 3 (pc1 := 9) (lv1 := [(0, .ref 13), (1, .int a1), (2, .int a2)]) (st1 := [.int (s.1 6), .int a1]) rfl ?_
    obtain ⟨h7, h8⟩ := h5
    by_cases c6 : a1.toInt < (s.1 6).toInt
    · refine am_wb2 rfl false (zn_ge (zq_a _) (zq_a _) (zr_t _) (zr_t _) c6) rfl ?_
      have h9 := h7 c6
      refine am_wh 4 (pc1 := 18) (lv1 := [(0, .ref 13), (1, .int a1), (2, .int a2)]) (st1 := [.int a2, .int a1, .ref 16]) rfl ?_
      obtain ⟨o10, h11⟩ := h9
      refine zw_si (l := (s.2 14)) (i := a1.toInt) rfl rfl (zq_a _) o10 (zh_14 _ _) ?_
      refine am_wr rfl rfl rfl ?_
      exact ⟨_, rfl, rfl, h11⟩
    · refine am_wb2 rfl true (zt_ge (zq_a _) (zq_a _) (zr_t _) (zr_t _) c6) rfl ?_
      have h12 := h8 c6
      refine am_wr rfl rfl rfl ?_
      exact ⟨_, rfl, rfl, h12⟩
set_option maxRecDepth 100000 in
theorem vc_75_0 (xs : Option (List Int32)) (d : Nat) (s : zS) (a1 : Int32) (Q : Int32 → zS → Prop) (h : zWi xs d 75 4 [(0, .ref 13), (2, .int a1), (3, .int 0)] s Q) : zWi xs d 75 0 [(0, .ref 13), (1, .int a1)] s Q := by
  unfold zWi
  refine am_wh 4 (pc1 := 4) (lv1 := [(3, .int 0), (2, .int a1), (0, .ref 13), (1, .int a1)]) (st1 := []) rfl ?_
  exact am_wm h ⟨rfl, rfl, rfl, trivial⟩
set_option maxRecDepth 100000 in
theorem vc_75_4 (xs : Option (List Int32)) (d : Nat) (s : zS) (a2 : Int32) (a3 : Int32) (Q : Int32 → zS → Prop) (h : (a3.toInt < (s.1 6).toInt → ((a2.toInt < 0 → (Q a2 s)) ∧ (¬ a2.toInt < 0 → ((a2.toInt < (s.1 6).toInt → (zX (s.2 12) a2.toInt ∧ ((zg (s.2 12) a2.toInt).toInt = 4 → (zX (s.2 13) a2.toInt ∧ zWi xs d 75 4 [(0, .ref 13), (2, .int (zg (s.2 13) a2.toInt)), (3, .int (a3 + 1))] s Q)) ∧ (¬ (zg (s.2 12) a2.toInt).toInt = 4 → (Q a2 s)))) ∧ (¬ a2.toInt < (s.1 6).toInt → (Q a2 s)))))) ∧ (¬ a3.toInt < (s.1 6).toInt → (Q a2 s))) : zWi xs d 75 4 [(0, .ref 13), (2, .int a2), (3, .int a3)] s Q := by
  unfold zWi
  refine am_wh 3 (pc1 := 9) (lv1 := [(0, .ref 13), (2, .int a2), (3, .int a3)]) (st1 := [.int (s.1 6), .int a3]) rfl ?_
  obtain ⟨h2, h3⟩ := h
  by_cases c1 : a3.toInt < (s.1 6).toInt
  · refine am_wb2 rfl false (zn_ge (zq_a _) (zq_a _) (zr_t _) (zr_t _) c1) rfl ?_
    have h4 := h2 c1
    refine am_wh 1 (pc1 := 13) (lv1 := [(0, .ref 13), (2, .int a2), (3, .int a3)]) (st1 := [.int a2]) rfl ?_
    obtain ⟨h6, h7⟩ := h4
    by_cases c5 : a2.toInt < 0
    · refine am_wb1 rfl true (zt_lt (zq_a _) (by decide) (zr_t _) ⟨by decide, by decide⟩ c5) rfl ?_
      have h8 := h6 c5
      refine am_wh 1 (pc1 := 51) (lv1 := [(0, .ref 13), (2, .int a2), (3, .int a3)]) (st1 := [.int a2]) rfl ?_
      refine am_wr rfl rfl rfl ?_
      exact ⟨_, _, rfl, rfl, h8⟩
    · refine am_wb1 rfl false (zn_lt (zq_a _) (by decide) (zr_t _) ⟨by decide, by decide⟩ c5) rfl ?_
      have h9 := h7 c5
      refine am_wh 3 (pc1 := 21) (lv1 := [(0, .ref 13), (2, .int a2), (3, .int a3)]) (st1 := [.int (s.1 6), .int a2]) rfl ?_
      obtain ⟨h11, h12⟩ := h9
      by_cases c10 : a2.toInt < (s.1 6).toInt
      · refine am_wb2 rfl false (zn_ge (zq_a _) (zq_a _) (zr_t _) (zr_t _) c10) rfl ?_
        have h13 := h11 c10
        refine am_wh 3 (pc1 := 29) (lv1 := [(0, .ref 13), (2, .int a2), (3, .int a3)]) (st1 := [.int a2, .ref 14]) rfl ?_
        obtain ⟨o14, h15⟩ := h13
        refine zw_li (l := (s.2 12)) (i := a2.toInt) rfl rfl (zq_a _) o14 ?_
        refine am_wh 1 (pc1 := 31) (lv1 := [(0, .ref 13), (2, .int a2), (3, .int a3)]) (st1 := [.int 4, .int (zg (s.2 12) a2.toInt)]) rfl ?_
        obtain ⟨h17, h18⟩ := h15
        by_cases c16 : (zg (s.2 12) a2.toInt).toInt = 4
        · refine am_wb2 rfl true (zt_eq (zq_a _) (by decide) (zr_t _) ⟨by decide, by decide⟩ c16) rfl ?_
          have h19 := h17 c16
          refine am_wh 3 (pc1 := 42) (lv1 := [(0, .ref 13), (2, .int a2), (3, .int a3)]) (st1 := [.int a2, .ref 15]) rfl ?_
          obtain ⟨o20, h21⟩ := h19
          refine zw_li (l := (s.2 13)) (i := a2.toInt) rfl rfl (zq_a _) o20 ?_
          refine am_wh 3 (pc1 := 4) (lv1 := [(3, .int (a3 + 1)), (2, .int (zg (s.2 13) a2.toInt)), (0, .ref 13)]) (st1 := []) rfl ?_
          exact am_wm h21 ⟨rfl, rfl, rfl, trivial⟩
        · refine am_wb2 rfl false (zn_eq (zq_a _) (by decide) (zr_t _) ⟨by decide, by decide⟩ c16) rfl ?_
          have h22 := h18 c16
          refine am_wh 2 (pc1 := 51) (lv1 := [(0, .ref 13), (2, .int a2), (3, .int a3)]) (st1 := [.int a2]) rfl ?_
          refine am_wr rfl rfl rfl ?_
          exact ⟨_, _, rfl, rfl, h22⟩
      · refine am_wb2 rfl true (zt_ge (zq_a _) (zq_a _) (zr_t _) (zr_t _) c10) rfl ?_
        have h23 := h12 c10
        refine am_wh 1 (pc1 := 51) (lv1 := [(0, .ref 13), (2, .int a2), (3, .int a3)]) (st1 := [.int a2]) rfl ?_
        refine am_wr rfl rfl rfl ?_
        exact ⟨_, _, rfl, rfl, h23⟩
  · refine am_wb2 rfl true (zt_ge (zq_a _) (zq_a _) (zr_t _) (zr_t _) c1) rfl ?_
    have h24 := h3 c1
    refine am_wh 1 (pc1 := 51) (lv1 := [(0, .ref 13), (2, .int a2), (3, .int a3)]) (st1 := [.int a2]) rfl ?_
    refine am_wr rfl rfl rfl ?_
    exact ⟨_, _, rfl, rfl, h24⟩
set_option maxRecDepth 100000 in
theorem vc_94_0 (xs : Option (List Int32)) (d : Nat) (s : zS) (a1 : Int32) (Q : Int32 → zS → Prop) (h : (a1.toInt < 0 → (Q 7 s)) ∧ (¬ a1.toInt < 0 → ((a1.toInt < (s.1 2).toInt → (zX (s.2 4) a1.toInt ∧ Q (zg (s.2 4) a1.toInt) s)) ∧ (¬ a1.toInt < (s.1 2).toInt → (Q 7 s))))) : zWi xs d 94 0 [(0, .ref 5), (1, .int a1)] s Q := by
  unfold zWi
  refine am_wh 1 (pc1 := 1) (lv1 := [(0, .ref 5), (1, .int a1)]) (st1 := [.int a1]) rfl ?_
  obtain ⟨h2, h3⟩ := h
  by_cases c1 : a1.toInt < 0
  · refine am_wb1 rfl true (zt_lt (zq_a _) (by decide) (zr_t _) ⟨by decide, by decide⟩ c1) rfl ?_
    have h4 := h2 c1
    refine am_wh 1 (pc1 := 23) (lv1 := [(0, .ref 5), (1, .int a1)]) (st1 := [.int 7]) rfl ?_
    refine am_wr rfl rfl rfl ?_
    exact ⟨_, _, rfl, rfl, h4⟩
  · refine am_wb1 rfl false (zn_lt (zq_a _) (by decide) (zr_t _) ⟨by decide, by decide⟩ c1) rfl ?_
    have h5 := h3 c1
    refine am_wh 3 (pc1 := 9) (lv1 := [(0, .ref 5), (1, .int a1)]) (st1 := [.int (s.1 2), .int a1]) rfl ?_
    obtain ⟨h7, h8⟩ := h5
    by_cases c6 : a1.toInt < (s.1 2).toInt
    · refine am_wb2 rfl false (zn_ge (zq_a _) (zq_a _) (zr_t _) (zr_t _) c6) rfl ?_
      have h9 := h7 c6
      refine am_wh 3 (pc1 := 17) (lv1 := [(0, .ref 5), (1, .int a1)]) (st1 := [.int a1, .ref 6]) rfl ?_
      obtain ⟨o10, h11⟩ := h9
      refine zw_li (l := (s.2 4)) (i := a1.toInt) rfl rfl (zq_a _) o10 ?_
      refine am_wh 1 (pc1 := 23) (lv1 := [(0, .ref 5), (1, .int a1)]) (st1 := [.int (zg (s.2 4) a1.toInt)]) rfl ?_
      refine am_wr rfl rfl rfl ?_
      exact ⟨_, _, rfl, rfl, h11⟩
    · refine am_wb2 rfl true (zt_ge (zq_a _) (zq_a _) (zr_t _) (zr_t _) c6) rfl ?_
      have h12 := h8 c6
      refine am_wh 1 (pc1 := 23) (lv1 := [(0, .ref 5), (1, .int a1)]) (st1 := [.int 7]) rfl ?_
      refine am_wr rfl rfl rfl ?_
      exact ⟨_, _, rfl, rfl, h12⟩
set_option maxRecDepth 100000 in
theorem vc_95_0 (xs : Option (List Int32)) (d : Nat) (s : zS) (a1 : Int32) (Q : Int32 → zS → Prop) (h : (a1.toInt < 0 → (Q (s.1 1) s)) ∧ (¬ a1.toInt < 0 → ((a1.toInt < (s.1 2).toInt → (zX (s.2 5) a1.toInt ∧ Q (zg (s.2 5) a1.toInt) s)) ∧ (¬ a1.toInt < (s.1 2).toInt → (Q (s.1 1) s))))) : zWi xs d 95 0 [(0, .ref 5), (1, .int a1)] s Q := by
  unfold zWi
  refine am_wh 1 (pc1 := 1) (lv1 := [(0, .ref 5), (1, .int a1)]) (st1 := [.int a1]) rfl ?_
  obtain ⟨h2, h3⟩ := h
  by_cases c1 : a1.toInt < 0
  · refine am_wb1 rfl true (zt_lt (zq_a _) (by decide) (zr_t _) ⟨by decide, by decide⟩ c1) rfl ?_
    have h4 := h2 c1
    refine am_wh 3 (pc1 := 28) (lv1 := [(0, .ref 5), (1, .int a1)]) (st1 := [.int (s.1 1)]) rfl ?_
    refine am_wr rfl rfl rfl ?_
    exact ⟨_, _, rfl, rfl, h4⟩
  · refine am_wb1 rfl false (zn_lt (zq_a _) (by decide) (zr_t _) ⟨by decide, by decide⟩ c1) rfl ?_
    have h5 := h3 c1
    refine am_wh 3 (pc1 := 9) (lv1 := [(0, .ref 5), (1, .int a1)]) (st1 := [.int (s.1 2), .int a1]) rfl ?_
    obtain ⟨h7, h8⟩ := h5
    by_cases c6 : a1.toInt < (s.1 2).toInt
    · refine am_wb2 rfl false (zn_ge (zq_a _) (zq_a _) (zr_t _) (zr_t _) c6) rfl ?_
      have h9 := h7 c6
      refine am_wh 3 (pc1 := 17) (lv1 := [(0, .ref 5), (1, .int a1)]) (st1 := [.int a1, .ref 7]) rfl ?_
      obtain ⟨o10, h11⟩ := h9
      refine zw_li (l := (s.2 5)) (i := a1.toInt) rfl rfl (zq_a _) o10 ?_
      refine am_wh 1 (pc1 := 28) (lv1 := [(0, .ref 5), (1, .int a1)]) (st1 := [.int (zg (s.2 5) a1.toInt)]) rfl ?_
      refine am_wr rfl rfl rfl ?_
      exact ⟨_, _, rfl, rfl, h11⟩
    · refine am_wb2 rfl true (zt_ge (zq_a _) (zq_a _) (zr_t _) (zr_t _) c6) rfl ?_
      have h12 := h8 c6
      refine am_wh 3 (pc1 := 28) (lv1 := [(0, .ref 5), (1, .int a1)]) (st1 := [.int (s.1 1)]) rfl ?_
      refine am_wr rfl rfl rfl ?_
      exact ⟨_, _, rfl, rfl, h12⟩
set_option maxRecDepth 100000 in
theorem vc_96_0 (xs : Option (List Int32)) (d : Nat) (s : zS) (a1 : Int32) (Q : Int32 → zS → Prop) (h : (a1.toInt < 0 → (Q (s.1 1) s)) ∧ (¬ a1.toInt < 0 → ((a1.toInt < (s.1 2).toInt → (zX (s.2 6) a1.toInt ∧ Q (zg (s.2 6) a1.toInt) s)) ∧ (¬ a1.toInt < (s.1 2).toInt → (Q (s.1 1) s))))) : zWi xs d 96 0 [(0, .ref 5), (1, .int a1)] s Q := by
  unfold zWi
  refine am_wh 1 (pc1 := 1) (lv1 := [(0, .ref 5), (1, .int a1)]) (st1 := [.int a1]) rfl ?_
  obtain ⟨h2, h3⟩ := h
  by_cases c1 : a1.toInt < 0
  · refine am_wb1 rfl true (zt_lt (zq_a _) (by decide) (zr_t _) ⟨by decide, by decide⟩ c1) rfl ?_
    have h4 := h2 c1
    refine am_wh 3 (pc1 := 28) (lv1 := [(0, .ref 5), (1, .int a1)]) (st1 := [.int (s.1 1)]) rfl ?_
    refine am_wr rfl rfl rfl ?_
    exact ⟨_, _, rfl, rfl, h4⟩
  · refine am_wb1 rfl false (zn_lt (zq_a _) (by decide) (zr_t _) ⟨by decide, by decide⟩ c1) rfl ?_
    have h5 := h3 c1
    refine am_wh 3 (pc1 := 9) (lv1 := [(0, .ref 5), (1, .int a1)]) (st1 := [.int (s.1 2), .int a1]) rfl ?_
    obtain ⟨h7, h8⟩ := h5
    by_cases c6 : a1.toInt < (s.1 2).toInt
    · refine am_wb2 rfl false (zn_ge (zq_a _) (zq_a _) (zr_t _) (zr_t _) c6) rfl ?_
      have h9 := h7 c6
      refine am_wh 3 (pc1 := 17) (lv1 := [(0, .ref 5), (1, .int a1)]) (st1 := [.int a1, .ref 8]) rfl ?_
      obtain ⟨o10, h11⟩ := h9
      refine zw_li (l := (s.2 6)) (i := a1.toInt) rfl rfl (zq_a _) o10 ?_
      refine am_wh 1 (pc1 := 28) (lv1 := [(0, .ref 5), (1, .int a1)]) (st1 := [.int (zg (s.2 6) a1.toInt)]) rfl ?_
      refine am_wr rfl rfl rfl ?_
      exact ⟨_, _, rfl, rfl, h11⟩
    · refine am_wb2 rfl true (zt_ge (zq_a _) (zq_a _) (zr_t _) (zr_t _) c6) rfl ?_
      have h12 := h8 c6
      refine am_wh 3 (pc1 := 28) (lv1 := [(0, .ref 5), (1, .int a1)]) (st1 := [.int (s.1 1)]) rfl ?_
      refine am_wr rfl rfl rfl ?_
      exact ⟨_, _, rfl, rfl, h12⟩
set_option maxRecDepth 100000 in
theorem vc_97_0 (xs : Option (List Int32)) (d : Nat) (s : zS) (a1 : Int32) (Q : Int32 → zS → Prop) (h : zWi xs d 94 0 [(0, .ref 5), (1, .int a1)] s (fun v3 s1 => (8 < v3.toInt → ((29 < v3.toInt → (Q 3 s1)) ∧ (¬ 29 < v3.toInt → (Q 2 s1)))) ∧ (¬ 8 < v3.toInt → (Q v3 s1)))) : zWi xs (d + 1) 97 0 [(0, .ref 5), (1, .int a1)] s Q := by
  unfold zWi
  refine am_wh 2 (pc1 := 2) (lv1 := [(0, .ref 5), (1, .int a1)]) (st1 := [.int a1, .ref 5]) rfl ?_
  refine am_wc rfl rfl rfl ?_
  refine am_ww h ?_
  rintro _ _ ⟨v3, s1, rfl, rfl, h2⟩
  show am_W _ _ 97 5 [(0, .ref 5), (1, .int a1)] [.int v3] (zH s1) _
  refine am_wh 3 (pc1 := 9) (lv1 := [(2, .int v3), (0, .ref 5), (1, .int a1)]) (st1 := [.int 8, .int v3]) rfl ?_
  obtain ⟨h5, h6⟩ := h2
  by_cases c4 : 8 < v3.toInt
  · refine am_wb2 rfl true (zt_gt (zq_a _) (by decide) (zr_t _) ⟨by decide, by decide⟩ c4) rfl ?_
    have h7 := h5 c4
    refine am_wh 2 (pc1 := 17) (lv1 := [(2, .int v3), (0, .ref 5), (1, .int a1)]) (st1 := [.int 29, .int v3]) rfl ?_
    obtain ⟨h9, h10⟩ := h7
    by_cases c8 : 29 < v3.toInt
    · refine am_wb2 rfl true (zt_gt (zq_a _) (by decide) (zr_t _) ⟨by decide, by decide⟩ c8) rfl ?_
      have h11 := h9 c8
      refine am_wh 1 (pc1 := 25) (lv1 := [(2, .int v3), (0, .ref 5), (1, .int a1)]) (st1 := [.int 3]) rfl ?_
      refine am_wr rfl rfl rfl ?_
      exact ⟨_, _, rfl, rfl, h11⟩
    · refine am_wb2 rfl false (zn_gt (zq_a _) (by decide) (zr_t _) ⟨by decide, by decide⟩ c8) rfl ?_
      have h12 := h10 c8
      refine am_wh 2 (pc1 := 25) (lv1 := [(2, .int v3), (0, .ref 5), (1, .int a1)]) (st1 := [.int 2]) rfl ?_
      refine am_wr rfl rfl rfl ?_
      exact ⟨_, _, rfl, rfl, h12⟩
  · refine am_wb2 rfl false (zn_gt (zq_a _) (by decide) (zr_t _) ⟨by decide, by decide⟩ c4) rfl ?_
    have h13 := h6 c4
    refine am_wh 1 (pc1 := 13) (lv1 := [(2, .int v3), (0, .ref 5), (1, .int a1)]) (st1 := [.int v3]) rfl ?_
    refine am_wr rfl rfl rfl ?_
    exact ⟨_, _, rfl, rfl, h13⟩
set_option maxRecDepth 100000 in
theorem vc_98_0 (xs : Option (List Int32)) (d : Nat) (s : zS)  (Q : zS → Prop) (h : zWv xs (d + 1) 98 21 [(0, .ref 5), (1, .int 0), (2, .int 1), (3, .int 0)] (zf (zf (zf s 2 0) 4 0) 3 1) Q) : zWv xs (d + 1) 98 0 [(0, .ref 5)] s Q := by
  unfold zWv
  refine am_wh 2 (pc1 := 2) (lv1 := [(0, .ref 5)]) (st1 := [.int 0, .ref 5]) rfl ?_
  refine am_w0 (z := (5, [(0, .ref 5)], [], zH (zf s 2 0))) rfl rfl (zp_2 ) ?_
  refine am_wh 2 (pc1 := 7) (lv1 := [(0, .ref 5)]) (st1 := [.int 0, .ref 5]) rfl ?_
  refine am_w0 (z := (10, [(0, .ref 5)], [], zH (zf (zf s 2 0) 4 0))) rfl rfl (zp_4 ) ?_
  refine am_wh 2 (pc1 := 12) (lv1 := [(0, .ref 5)]) (st1 := [.int 1, .ref 5]) rfl ?_
  refine am_w0 (z := (15, [(0, .ref 5)], [], zH (zf (zf (zf s 2 0) 4 0) 3 1))) rfl rfl (zp_3 ) ?_
  refine am_wh 6 (pc1 := 21) (lv1 := [(3, .int 0), (2, .int 1), (1, .int 0), (0, .ref 5)]) (st1 := []) rfl ?_
  exact am_wm h ⟨rfl, rfl, rfl, rfl, trivial⟩
set_option maxRecDepth 100000 in
theorem vc_98_21 (xs : Option (List Int32)) (d : Nat) (s : zS) (a1 : Int32) (a2 : Int32) (a3 : Int32) (Q : zS → Prop) (h : (a3.toInt < (s.1 1).toInt → (zWi xs d 85 0 [(0, .ref 3), (1, .int a3)] s (fun v7 s5 => (v7.toInt = 10 → (((s5.1 4).toInt = 0 → (zWv xs d 99 0 [(0, .ref 5), (1, .int a2)] s5 (fun s16 => zR (a3.toInt + 1) ∧ ((a3.toInt + 1) < (a3.toInt + 1) → (zWv xs (d + 1) 98 21 [(0, .ref 5), (1, .int (a3 + 1)), (2, .int 1), (3, .int (a3 + 1))] s16 Q)) ∧ (¬ (a3.toInt + 1) < (a3.toInt + 1) → (zWv xs (d + 1) 98 21 [(0, .ref 5), (1, .int (a3 + 1)), (2, .int 1), (3, .int (a3 + 1))] s16 Q))))) ∧ (¬ (s5.1 4).toInt = 0 → ((v7.toInt = 35 → (zWi xs d 87 0 [(0, .ref 3), (1, .int a3)] s5 (fun v32 s30 => zR (a3.toInt + 1) ∧ ((a3.toInt + 1) < v32.toInt → (zWv xs (d + 1) 98 21 [(0, .ref 5), (1, .int a1), (2, .int a2), (3, .int v32)] s30 Q)) ∧ (¬ (a3.toInt + 1) < v32.toInt → (zWv xs (d + 1) 98 21 [(0, .ref 5), (1, .int a1), (2, .int a2), (3, .int (a3 + 1))] s30 Q))))) ∧ (¬ v7.toInt = 35 → (zR (a3.toInt + 1) ∧ ((a3.toInt + 1) < (a3.toInt + 1) → (zWv xs (d + 1) 98 21 [(0, .ref 5), (1, .int a1), (2, .int a2), (3, .int (a3 + 1))] s5 Q)) ∧ (¬ (a3.toInt + 1) < (a3.toInt + 1) → (zWv xs (d + 1) 98 21 [(0, .ref 5), (1, .int a1), (2, .int a2), (3, .int (a3 + 1))] s5 Q)))))))) ∧ (¬ v7.toInt = 10 → ((v7.toInt = 35 → (zWi xs d 87 0 [(0, .ref 3), (1, .int a3)] s5 (fun v55 s53 => zR (a3.toInt + 1) ∧ ((a3.toInt + 1) < v55.toInt → (zWv xs (d + 1) 98 21 [(0, .ref 5), (1, .int a1), (2, .int a2), (3, .int v55)] s53 Q)) ∧ (¬ (a3.toInt + 1) < v55.toInt → (zWv xs (d + 1) 98 21 [(0, .ref 5), (1, .int a1), (2, .int a2), (3, .int (a3 + 1))] s53 Q))))) ∧ (¬ v7.toInt = 35 → ((v7.toInt = 32 → (zR (a3.toInt + 1) ∧ ((a3.toInt + 1) < (a3.toInt + 1) → (zWv xs (d + 1) 98 21 [(0, .ref 5), (1, .int a1), (2, .int a2), (3, .int (a3 + 1))] s5 Q)) ∧ (¬ (a3.toInt + 1) < (a3.toInt + 1) → (zWv xs (d + 1) 98 21 [(0, .ref 5), (1, .int a1), (2, .int a2), (3, .int (a3 + 1))] s5 Q)))) ∧ (¬ v7.toInt = 32 → ((a2.toInt = 0 → (zWi xs d 103 0 [(0, .ref 5), (1, .int a3)] s5 (fun v82 s80 => zR (a3.toInt + 1) ∧ ((a3.toInt + 1) < v82.toInt → (zWv xs (d + 1) 98 21 [(0, .ref 5), (1, .int a1), (2, .int 0), (3, .int v82)] s80 Q)) ∧ (¬ (a3.toInt + 1) < v82.toInt → (zWv xs (d + 1) 98 21 [(0, .ref 5), (1, .int a1), (2, .int 0), (3, .int (a3 + 1))] s80 Q))))) ∧ (¬ a2.toInt = 0 → (zWv xs d 101 0 [(0, .ref 5), (1, .int (a3 - a1)), (2, .int a3)] s5 (fun s91 => zWi xs d 103 0 [(0, .ref 5), (1, .int a3)] s91 (fun v95 s93 => zR (a3.toInt + 1) ∧ ((a3.toInt + 1) < v95.toInt → (zWv xs (d + 1) 98 21 [(0, .ref 5), (1, .int a1), (2, .int 0), (3, .int v95)] s93 Q)) ∧ (¬ (a3.toInt + 1) < v95.toInt → (zWv xs (d + 1) 98 21 [(0, .ref 5), (1, .int a1), (2, .int 0), (3, .int (a3 + 1))] s93 Q))))))))))))))) ∧ (¬ a3.toInt < (s.1 1).toInt → (zWv xs d 99 0 [(0, .ref 5), (1, .int a2)] s (fun s104 => zWv xs d 100 0 [(0, .ref 5)] s104 (fun s106 => Q s106))))) : zWv xs (d + 1) 98 21 [(0, .ref 5), (1, .int a1), (2, .int a2), (3, .int a3)] s Q := by
  unfold zWv
  refine am_wh 4 (pc1 := 29) (lv1 := [(0, .ref 5), (1, .int a1), (2, .int a2), (3, .int a3)]) (st1 := [.int (s.1 1), .int a3]) rfl ?_
  obtain ⟨h2, h3⟩ := h
  by_cases c1 : a3.toInt < (s.1 1).toInt
  · refine am_wb2 rfl false (zn_ge (zq_a _) (zq_a _) (zr_t _) (zr_t _) c1) rfl ?_
    have h4 := h2 c1
    refine am_wh 3 (pc1 := 37) (lv1 := [(0, .ref 5), (1, .int a1), (2, .int a2), (3, .int a3)]) (st1 := [.int a3, .ref 3]) rfl ?_
    refine am_wc rfl rfl rfl ?_
    refine am_ww h4 ?_
    rintro _ _ ⟨v7, s5, rfl, rfl, h6⟩
    show am_W _ _ 98 40 [(0, .ref 5), (1, .int a1), (2, .int a2), (3, .int a3)] [.int v7] (zH s5) _
    refine am_wh 7 (pc1 := 51) (lv1 := [(5, .int (a3 + 1)), (4, .int v7), (0, .ref 5), (1, .int a1), (2, .int a2), (3, .int a3)]) (st1 := [.int 10, .int v7]) rfl ?_
    obtain ⟨h9, h10⟩ := h6
    by_cases c8 : v7.toInt = 10
    · refine am_wb2 rfl false (zn_ne (zq_a _) (by decide) (zr_t _) ⟨by decide, by decide⟩ c8) rfl ?_
      have h11 := h9 c8
      refine am_wh 2 (pc1 := 58) (lv1 := [(5, .int (a3 + 1)), (4, .int v7), (0, .ref 5), (1, .int a1), (2, .int a2), (3, .int a3)]) (st1 := [.int (s5.1 4)]) rfl ?_
      obtain ⟨h13, h14⟩ := h11
      by_cases c12 : (s5.1 4).toInt = 0
      · refine am_wb1 rfl false (zn_ne (zq_a _) (by decide) (zr_t _) ⟨by decide, by decide⟩ c12) rfl ?_
        have h15 := h13 c12
        refine am_wh 2 (pc1 := 63) (lv1 := [(5, .int (a3 + 1)), (4, .int v7), (0, .ref 5), (1, .int a1), (2, .int a2), (3, .int a3)]) (st1 := [.int a2, .ref 5]) rfl ?_
        refine am_wc rfl rfl rfl ?_
        refine am_ww h15 ?_
        rintro _ _ ⟨s16, rfl, rfl, h17⟩
        show am_W _ _ 98 66 [(5, .int (a3 + 1)), (4, .int v7), (0, .ref 5), (1, .int a1), (2, .int a2), (3, .int a3)] [] (zH s16) _
        obtain ⟨o18, h19⟩ := h17
        refine am_wh 9 (pc1 := 134) (lv1 := [(1, .int (a3 + 1)), (2, .int 1), (5, .int (a3 + 1)), (4, .int v7), (0, .ref 5), (3, .int a3)]) (st1 := [.int (a3 + 1), .int (a3 + 1)]) rfl ?_
        obtain ⟨h21, h22⟩ := h19
        by_cases c20 : (a3.toInt + 1) < (a3.toInt + 1)
        · refine am_wh 1 (pc1 := 137) (lv1 := [(1, .int (a3 + 1)), (2, .int 1), (5, .int (a3 + 1)), (4, .int v7), (0, .ref 5), (3, .int a3)]) (st1 := .int (if (a3 + 1) < (a3 + 1) then (a3 + 1) else (a3 + 1)) :: []) rfl ?_
          rw [zmx_t (zq_add (zq_a _) (by decide)) (zq_add (zq_a _) (by decide)) o18 o18 c20]
          have h23 := h21 c20
          refine am_wh 2 (pc1 := 21) (lv1 := [(3, .int (a3 + 1)), (1, .int (a3 + 1)), (2, .int 1), (5, .int (a3 + 1)), (4, .int v7), (0, .ref 5)]) (st1 := []) rfl ?_
          exact am_wm h23 ⟨rfl, rfl, rfl, rfl, trivial⟩
        · refine am_wh 1 (pc1 := 137) (lv1 := [(1, .int (a3 + 1)), (2, .int 1), (5, .int (a3 + 1)), (4, .int v7), (0, .ref 5), (3, .int a3)]) (st1 := .int (if (a3 + 1) < (a3 + 1) then (a3 + 1) else (a3 + 1)) :: []) rfl ?_
          rw [zmx_n (zq_add (zq_a _) (by decide)) (zq_add (zq_a _) (by decide)) o18 o18 c20]
          have h24 := h22 c20
          refine am_wh 2 (pc1 := 21) (lv1 := [(3, .int (a3 + 1)), (1, .int (a3 + 1)), (2, .int 1), (5, .int (a3 + 1)), (4, .int v7), (0, .ref 5)]) (st1 := []) rfl ?_
          exact am_wm h24 ⟨rfl, rfl, rfl, rfl, trivial⟩
      · refine am_wb1 rfl true (zt_ne (zq_a _) (by decide) (zr_t _) ⟨by decide, by decide⟩ c12) rfl ?_
        have h25 := h14 c12
        refine am_wh 2 (pc1 := 78) (lv1 := [(5, .int (a3 + 1)), (4, .int v7), (0, .ref 5), (1, .int a1), (2, .int a2), (3, .int a3)]) (st1 := [.int 35, .int v7]) rfl ?_
        obtain ⟨h27, h28⟩ := h25
        by_cases c26 : v7.toInt = 35
        · refine am_wb2 rfl false (zn_ne (zq_a _) (by decide) (zr_t _) ⟨by decide, by decide⟩ c26) rfl ?_
          have h29 := h27 c26
          refine am_wh 3 (pc1 := 86) (lv1 := [(5, .int (a3 + 1)), (4, .int v7), (0, .ref 5), (1, .int a1), (2, .int a2), (3, .int a3)]) (st1 := [.int a3, .ref 3]) rfl ?_
          refine am_wc rfl rfl rfl ?_
          refine am_ww h29 ?_
          rintro _ _ ⟨v32, s30, rfl, rfl, h31⟩
          show am_W _ _ 98 89 [(5, .int (a3 + 1)), (4, .int v7), (0, .ref 5), (1, .int a1), (2, .int a2), (3, .int a3)] [.int v32] (zH s30) _
          obtain ⟨o33, h34⟩ := h31
          refine am_wh 6 (pc1 := 134) (lv1 := [(5, .int v32), (4, .int v7), (0, .ref 5), (1, .int a1), (2, .int a2), (3, .int a3)]) (st1 := [.int v32, .int (a3 + 1)]) rfl ?_
          obtain ⟨h36, h37⟩ := h34
          by_cases c35 : (a3.toInt + 1) < v32.toInt
          · refine am_wh 1 (pc1 := 137) (lv1 := [(5, .int v32), (4, .int v7), (0, .ref 5), (1, .int a1), (2, .int a2), (3, .int a3)]) (st1 := .int (if (a3 + 1) < v32 then v32 else (a3 + 1)) :: []) rfl ?_
            rw [zmx_t (zq_add (zq_a _) (by decide)) (zq_a _) o33 (zr_t _) c35]
            have h38 := h36 c35
            refine am_wh 2 (pc1 := 21) (lv1 := [(3, .int v32), (5, .int v32), (4, .int v7), (0, .ref 5), (1, .int a1), (2, .int a2)]) (st1 := []) rfl ?_
            exact am_wm h38 ⟨rfl, rfl, rfl, rfl, trivial⟩
          · refine am_wh 1 (pc1 := 137) (lv1 := [(5, .int v32), (4, .int v7), (0, .ref 5), (1, .int a1), (2, .int a2), (3, .int a3)]) (st1 := .int (if (a3 + 1) < v32 then v32 else (a3 + 1)) :: []) rfl ?_
            rw [zmx_n (zq_add (zq_a _) (by decide)) (zq_a _) o33 (zr_t _) c35]
            have h39 := h37 c35
            refine am_wh 2 (pc1 := 21) (lv1 := [(3, .int (a3 + 1)), (5, .int v32), (4, .int v7), (0, .ref 5), (1, .int a1), (2, .int a2)]) (st1 := []) rfl ?_
            exact am_wm h39 ⟨rfl, rfl, rfl, rfl, trivial⟩
        · refine am_wb2 rfl true (zt_ne (zq_a _) (by decide) (zr_t _) ⟨by decide, by decide⟩ c26) rfl ?_
          have h40 := h28 c26
          refine am_wh 2 (pc1 := 98) (lv1 := [(5, .int (a3 + 1)), (4, .int v7), (0, .ref 5), (1, .int a1), (2, .int a2), (3, .int a3)]) (st1 := [.int 10, .int v7]) rfl ?_
          refine am_wb2 rfl true (zt_eq (zq_a _) (by decide) (zr_t _) ⟨by decide, by decide⟩ c8) rfl ?_
          obtain ⟨o41, h42⟩ := h40
          refine am_wh 4 (pc1 := 134) (lv1 := [(5, .int (a3 + 1)), (4, .int v7), (0, .ref 5), (1, .int a1), (2, .int a2), (3, .int a3)]) (st1 := [.int (a3 + 1), .int (a3 + 1)]) rfl ?_
          obtain ⟨h44, h45⟩ := h42
          by_cases c43 : (a3.toInt + 1) < (a3.toInt + 1)
          · refine am_wh 1 (pc1 := 137) (lv1 := [(5, .int (a3 + 1)), (4, .int v7), (0, .ref 5), (1, .int a1), (2, .int a2), (3, .int a3)]) (st1 := .int (if (a3 + 1) < (a3 + 1) then (a3 + 1) else (a3 + 1)) :: []) rfl ?_
            rw [zmx_t (zq_add (zq_a _) (by decide)) (zq_add (zq_a _) (by decide)) o41 o41 c43]
            have h46 := h44 c43
            refine am_wh 2 (pc1 := 21) (lv1 := [(3, .int (a3 + 1)), (5, .int (a3 + 1)), (4, .int v7), (0, .ref 5), (1, .int a1), (2, .int a2)]) (st1 := []) rfl ?_
            exact am_wm h46 ⟨rfl, rfl, rfl, rfl, trivial⟩
          · refine am_wh 1 (pc1 := 137) (lv1 := [(5, .int (a3 + 1)), (4, .int v7), (0, .ref 5), (1, .int a1), (2, .int a2), (3, .int a3)]) (st1 := .int (if (a3 + 1) < (a3 + 1) then (a3 + 1) else (a3 + 1)) :: []) rfl ?_
            rw [zmx_n (zq_add (zq_a _) (by decide)) (zq_add (zq_a _) (by decide)) o41 o41 c43]
            have h47 := h45 c43
            refine am_wh 2 (pc1 := 21) (lv1 := [(3, .int (a3 + 1)), (5, .int (a3 + 1)), (4, .int v7), (0, .ref 5), (1, .int a1), (2, .int a2)]) (st1 := []) rfl ?_
            exact am_wm h47 ⟨rfl, rfl, rfl, rfl, trivial⟩
    · refine am_wb2 rfl true (zt_ne (zq_a _) (by decide) (zr_t _) ⟨by decide, by decide⟩ c8) rfl ?_
      have h48 := h10 c8
      refine am_wh 2 (pc1 := 78) (lv1 := [(5, .int (a3 + 1)), (4, .int v7), (0, .ref 5), (1, .int a1), (2, .int a2), (3, .int a3)]) (st1 := [.int 35, .int v7]) rfl ?_
      obtain ⟨h50, h51⟩ := h48
      by_cases c49 : v7.toInt = 35
      · refine am_wb2 rfl false (zn_ne (zq_a _) (by decide) (zr_t _) ⟨by decide, by decide⟩ c49) rfl ?_
        have h52 := h50 c49
        refine am_wh 3 (pc1 := 86) (lv1 := [(5, .int (a3 + 1)), (4, .int v7), (0, .ref 5), (1, .int a1), (2, .int a2), (3, .int a3)]) (st1 := [.int a3, .ref 3]) rfl ?_
        refine am_wc rfl rfl rfl ?_
        refine am_ww h52 ?_
        rintro _ _ ⟨v55, s53, rfl, rfl, h54⟩
        show am_W _ _ 98 89 [(5, .int (a3 + 1)), (4, .int v7), (0, .ref 5), (1, .int a1), (2, .int a2), (3, .int a3)] [.int v55] (zH s53) _
        obtain ⟨o56, h57⟩ := h54
        refine am_wh 6 (pc1 := 134) (lv1 := [(5, .int v55), (4, .int v7), (0, .ref 5), (1, .int a1), (2, .int a2), (3, .int a3)]) (st1 := [.int v55, .int (a3 + 1)]) rfl ?_
        obtain ⟨h59, h60⟩ := h57
        by_cases c58 : (a3.toInt + 1) < v55.toInt
        · refine am_wh 1 (pc1 := 137) (lv1 := [(5, .int v55), (4, .int v7), (0, .ref 5), (1, .int a1), (2, .int a2), (3, .int a3)]) (st1 := .int (if (a3 + 1) < v55 then v55 else (a3 + 1)) :: []) rfl ?_
          rw [zmx_t (zq_add (zq_a _) (by decide)) (zq_a _) o56 (zr_t _) c58]
          have h61 := h59 c58
          refine am_wh 2 (pc1 := 21) (lv1 := [(3, .int v55), (5, .int v55), (4, .int v7), (0, .ref 5), (1, .int a1), (2, .int a2)]) (st1 := []) rfl ?_
          exact am_wm h61 ⟨rfl, rfl, rfl, rfl, trivial⟩
        · refine am_wh 1 (pc1 := 137) (lv1 := [(5, .int v55), (4, .int v7), (0, .ref 5), (1, .int a1), (2, .int a2), (3, .int a3)]) (st1 := .int (if (a3 + 1) < v55 then v55 else (a3 + 1)) :: []) rfl ?_
          rw [zmx_n (zq_add (zq_a _) (by decide)) (zq_a _) o56 (zr_t _) c58]
          have h62 := h60 c58
          refine am_wh 2 (pc1 := 21) (lv1 := [(3, .int (a3 + 1)), (5, .int v55), (4, .int v7), (0, .ref 5), (1, .int a1), (2, .int a2)]) (st1 := []) rfl ?_
          exact am_wm h62 ⟨rfl, rfl, rfl, rfl, trivial⟩
      · refine am_wb2 rfl true (zt_ne (zq_a _) (by decide) (zr_t _) ⟨by decide, by decide⟩ c49) rfl ?_
        have h63 := h51 c49
        refine am_wh 2 (pc1 := 98) (lv1 := [(5, .int (a3 + 1)), (4, .int v7), (0, .ref 5), (1, .int a1), (2, .int a2), (3, .int a3)]) (st1 := [.int 10, .int v7]) rfl ?_
        refine am_wb2 rfl false (zn_eq (zq_a _) (by decide) (zr_t _) ⟨by decide, by decide⟩ c8) rfl ?_
        refine am_wh 2 (pc1 := 105) (lv1 := [(5, .int (a3 + 1)), (4, .int v7), (0, .ref 5), (1, .int a1), (2, .int a2), (3, .int a3)]) (st1 := [.int 32, .int v7]) rfl ?_
        obtain ⟨h65, h66⟩ := h63
        by_cases c64 : v7.toInt = 32
        · refine am_wb2 rfl true (zt_eq (zq_a _) (by decide) (zr_t _) ⟨by decide, by decide⟩ c64) rfl ?_
          have h67 := h65 c64
          obtain ⟨o68, h69⟩ := h67
          refine am_wh 4 (pc1 := 134) (lv1 := [(5, .int (a3 + 1)), (4, .int v7), (0, .ref 5), (1, .int a1), (2, .int a2), (3, .int a3)]) (st1 := [.int (a3 + 1), .int (a3 + 1)]) rfl ?_
          obtain ⟨h71, h72⟩ := h69
          by_cases c70 : (a3.toInt + 1) < (a3.toInt + 1)
          · refine am_wh 1 (pc1 := 137) (lv1 := [(5, .int (a3 + 1)), (4, .int v7), (0, .ref 5), (1, .int a1), (2, .int a2), (3, .int a3)]) (st1 := .int (if (a3 + 1) < (a3 + 1) then (a3 + 1) else (a3 + 1)) :: []) rfl ?_
            rw [zmx_t (zq_add (zq_a _) (by decide)) (zq_add (zq_a _) (by decide)) o68 o68 c70]
            have h73 := h71 c70
            refine am_wh 2 (pc1 := 21) (lv1 := [(3, .int (a3 + 1)), (5, .int (a3 + 1)), (4, .int v7), (0, .ref 5), (1, .int a1), (2, .int a2)]) (st1 := []) rfl ?_
            exact am_wm h73 ⟨rfl, rfl, rfl, rfl, trivial⟩
          · refine am_wh 1 (pc1 := 137) (lv1 := [(5, .int (a3 + 1)), (4, .int v7), (0, .ref 5), (1, .int a1), (2, .int a2), (3, .int a3)]) (st1 := .int (if (a3 + 1) < (a3 + 1) then (a3 + 1) else (a3 + 1)) :: []) rfl ?_
            rw [zmx_n (zq_add (zq_a _) (by decide)) (zq_add (zq_a _) (by decide)) o68 o68 c70]
            have h74 := h72 c70
            refine am_wh 2 (pc1 := 21) (lv1 := [(3, .int (a3 + 1)), (5, .int (a3 + 1)), (4, .int v7), (0, .ref 5), (1, .int a1), (2, .int a2)]) (st1 := []) rfl ?_
            exact am_wm h74 ⟨rfl, rfl, rfl, rfl, trivial⟩
        · refine am_wb2 rfl false (zn_eq (zq_a _) (by decide) (zr_t _) ⟨by decide, by decide⟩ c64) rfl ?_
          have h75 := h66 c64
          refine am_wh 1 (pc1 := 109) (lv1 := [(5, .int (a3 + 1)), (4, .int v7), (0, .ref 5), (1, .int a1), (2, .int a2), (3, .int a3)]) (st1 := [.int a2]) rfl ?_
          obtain ⟨h77, h78⟩ := h75
          by_cases c76 : a2.toInt = 0
          · refine am_wb1 rfl true (zt_eq (zq_a _) (by decide) (zr_t _) ⟨by decide, by decide⟩ c76) rfl ?_
            have h79 := h77 c76
            refine am_wh 4 (pc1 := 124) (lv1 := [(2, .int 0), (5, .int (a3 + 1)), (4, .int v7), (0, .ref 5), (1, .int a1), (3, .int a3)]) (st1 := [.int a3, .ref 5]) rfl ?_
            refine am_wc rfl rfl rfl ?_
            refine am_ww h79 ?_
            rintro _ _ ⟨v82, s80, rfl, rfl, h81⟩
            show am_W _ _ 98 127 [(2, .int 0), (5, .int (a3 + 1)), (4, .int v7), (0, .ref 5), (1, .int a1), (3, .int a3)] [.int v82] (zH s80) _
            obtain ⟨o83, h84⟩ := h81
            refine am_wh 5 (pc1 := 134) (lv1 := [(5, .int v82), (2, .int 0), (4, .int v7), (0, .ref 5), (1, .int a1), (3, .int a3)]) (st1 := [.int v82, .int (a3 + 1)]) rfl ?_
            obtain ⟨h86, h87⟩ := h84
            by_cases c85 : (a3.toInt + 1) < v82.toInt
            · refine am_wh 1 (pc1 := 137) (lv1 := [(5, .int v82), (2, .int 0), (4, .int v7), (0, .ref 5), (1, .int a1), (3, .int a3)]) (st1 := .int (if (a3 + 1) < v82 then v82 else (a3 + 1)) :: []) rfl ?_
              rw [zmx_t (zq_add (zq_a _) (by decide)) (zq_a _) o83 (zr_t _) c85]
              have h88 := h86 c85
              refine am_wh 2 (pc1 := 21) (lv1 := [(3, .int v82), (5, .int v82), (2, .int 0), (4, .int v7), (0, .ref 5), (1, .int a1)]) (st1 := []) rfl ?_
              exact am_wm h88 ⟨rfl, rfl, rfl, rfl, trivial⟩
            · refine am_wh 1 (pc1 := 137) (lv1 := [(5, .int v82), (2, .int 0), (4, .int v7), (0, .ref 5), (1, .int a1), (3, .int a3)]) (st1 := .int (if (a3 + 1) < v82 then v82 else (a3 + 1)) :: []) rfl ?_
              rw [zmx_n (zq_add (zq_a _) (by decide)) (zq_a _) o83 (zr_t _) c85]
              have h89 := h87 c85
              refine am_wh 2 (pc1 := 21) (lv1 := [(3, .int (a3 + 1)), (5, .int v82), (2, .int 0), (4, .int v7), (0, .ref 5), (1, .int a1)]) (st1 := []) rfl ?_
              exact am_wm h89 ⟨rfl, rfl, rfl, rfl, trivial⟩
          · refine am_wb1 rfl false (zn_eq (zq_a _) (by decide) (zr_t _) ⟨by decide, by decide⟩ c76) rfl ?_
            have h90 := h78 c76
            refine am_wh 5 (pc1 := 117) (lv1 := [(5, .int (a3 + 1)), (4, .int v7), (0, .ref 5), (1, .int a1), (2, .int a2), (3, .int a3)]) (st1 := [.int a3, .int (a3 - a1), .ref 5]) rfl ?_
            refine am_wc rfl rfl rfl ?_
            refine am_ww h90 ?_
            rintro _ _ ⟨s91, rfl, rfl, h92⟩
            show am_W _ _ 98 120 [(5, .int (a3 + 1)), (4, .int v7), (0, .ref 5), (1, .int a1), (2, .int a2), (3, .int a3)] [] (zH s91) _
            refine am_wh 4 (pc1 := 124) (lv1 := [(2, .int 0), (5, .int (a3 + 1)), (4, .int v7), (0, .ref 5), (1, .int a1), (3, .int a3)]) (st1 := [.int a3, .ref 5]) rfl ?_
            refine am_wc rfl rfl rfl ?_
            refine am_ww h92 ?_
            rintro _ _ ⟨v95, s93, rfl, rfl, h94⟩
            show am_W _ _ 98 127 [(2, .int 0), (5, .int (a3 + 1)), (4, .int v7), (0, .ref 5), (1, .int a1), (3, .int a3)] [.int v95] (zH s93) _
            obtain ⟨o96, h97⟩ := h94
            refine am_wh 5 (pc1 := 134) (lv1 := [(5, .int v95), (2, .int 0), (4, .int v7), (0, .ref 5), (1, .int a1), (3, .int a3)]) (st1 := [.int v95, .int (a3 + 1)]) rfl ?_
            obtain ⟨h99, h100⟩ := h97
            by_cases c98 : (a3.toInt + 1) < v95.toInt
            · refine am_wh 1 (pc1 := 137) (lv1 := [(5, .int v95), (2, .int 0), (4, .int v7), (0, .ref 5), (1, .int a1), (3, .int a3)]) (st1 := .int (if (a3 + 1) < v95 then v95 else (a3 + 1)) :: []) rfl ?_
              rw [zmx_t (zq_add (zq_a _) (by decide)) (zq_a _) o96 (zr_t _) c98]
              have h101 := h99 c98
              refine am_wh 2 (pc1 := 21) (lv1 := [(3, .int v95), (5, .int v95), (2, .int 0), (4, .int v7), (0, .ref 5), (1, .int a1)]) (st1 := []) rfl ?_
              exact am_wm h101 ⟨rfl, rfl, rfl, rfl, trivial⟩
            · refine am_wh 1 (pc1 := 137) (lv1 := [(5, .int v95), (2, .int 0), (4, .int v7), (0, .ref 5), (1, .int a1), (3, .int a3)]) (st1 := .int (if (a3 + 1) < v95 then v95 else (a3 + 1)) :: []) rfl ?_
              rw [zmx_n (zq_add (zq_a _) (by decide)) (zq_a _) o96 (zr_t _) c98]
              have h102 := h100 c98
              refine am_wh 2 (pc1 := 21) (lv1 := [(3, .int (a3 + 1)), (5, .int v95), (2, .int 0), (4, .int v7), (0, .ref 5), (1, .int a1)]) (st1 := []) rfl ?_
              exact am_wm h102 ⟨rfl, rfl, rfl, rfl, trivial⟩
  · refine am_wb2 rfl true (zt_ge (zq_a _) (zq_a _) (zr_t _) (zr_t _) c1) rfl ?_
    have h103 := h3 c1
    refine am_wh 2 (pc1 := 143) (lv1 := [(0, .ref 5), (1, .int a1), (2, .int a2), (3, .int a3)]) (st1 := [.int a2, .ref 5]) rfl ?_
    refine am_wc rfl rfl rfl ?_
    refine am_ww h103 ?_
    rintro _ _ ⟨s104, rfl, rfl, h105⟩
    show am_W _ _ 98 146 [(0, .ref 5), (1, .int a1), (2, .int a2), (3, .int a3)] [] (zH s104) _
    refine am_wh 1 (pc1 := 147) (lv1 := [(0, .ref 5), (1, .int a1), (2, .int a2), (3, .int a3)]) (st1 := [.ref 5]) rfl ?_
    refine am_wc rfl rfl rfl ?_
    refine am_ww h105 ?_
    rintro _ _ ⟨s106, rfl, rfl, h107⟩
    show am_W _ _ 98 150 [(0, .ref 5), (1, .int a1), (2, .int a2), (3, .int a3)] [] (zH s106) _
    refine am_wr rfl rfl rfl ?_
    exact ⟨_, rfl, rfl, h107⟩
set_option maxRecDepth 100000 in
theorem vc_99_0 (xs : Option (List Int32)) (d : Nat) (s : zS) (a1 : Int32) (Q : zS → Prop) (h : (a1.toInt = 0 → (zWi xs d 96 0 [(0, .ref 5), (1, .int ((s.1 2) - 1))] s (fun v7 s5 => zWv xs d 106 0 [(0, .ref 5), (1, .int 4), (2, .int v7), (3, .int v7)] s5 (fun s8 => Q s8)))) ∧ (¬ a1.toInt = 0 → (Q s))) : zWv xs (d + 1) 99 0 [(0, .ref 5), (1, .int a1)] s Q := by
  unfold zWv
  refine am_wh 1 (pc1 := 1) (lv1 := [(0, .ref 5), (1, .int a1)]) (st1 := [.int a1]) rfl ?_
  obtain ⟨h2, h3⟩ := h
  by_cases c1 : a1.toInt = 0
  · refine am_wb1 rfl false (zn_ne (zq_a _) (by decide) (zr_t _) ⟨by decide, by decide⟩ c1) rfl ?_
    have h4 := h2 c1
    refine am_wh 5 (pc1 := 11) (lv1 := [(0, .ref 5), (1, .int a1)]) (st1 := [.int ((s.1 2) - 1), .ref 5]) rfl ?_
    refine am_wc rfl rfl rfl ?_
    refine am_ww h4 ?_
    rintro _ _ ⟨v7, s5, rfl, rfl, h6⟩
    show am_W _ _ 99 14 [(0, .ref 5), (1, .int a1)] [.int v7] (zH s5) _
    refine am_wh 5 (pc1 := 19) (lv1 := [(2, .int v7), (0, .ref 5), (1, .int a1)]) (st1 := [.int v7, .int v7, .int 4, .ref 5]) rfl ?_
    refine am_wc rfl rfl rfl ?_
    refine am_ww h6 ?_
    rintro _ _ ⟨s8, rfl, rfl, h9⟩
    show am_W _ _ 99 22 [(2, .int v7), (0, .ref 5), (1, .int a1)] [] (zH s8) _
    refine am_wr rfl rfl rfl ?_
    exact ⟨_, rfl, rfl, h9⟩
  · refine am_wb1 rfl true (zt_ne (zq_a _) (by decide) (zr_t _) ⟨by decide, by decide⟩ c1) rfl ?_
    have h10 := h3 c1
    refine am_wr rfl rfl rfl ?_
    exact ⟨_, rfl, rfl, h10⟩
set_option maxRecDepth 100000 in
theorem vc_100_0 (xs : Option (List Int32)) (d : Nat) (s : zS)  (Q : zS → Prop) (h : (1 < (s.1 3).toInt → (zWv xs d 106 0 [(0, .ref 5), (1, .int 6), (2, .int (s.1 1)), (3, .int (s.1 1))] (zf s 3 ((s.1 3) - 1)) (fun s5 => zWv xs (d + 1) 100 0 [(0, .ref 5)] s5 Q))) ∧ (¬ 1 < (s.1 3).toInt → (zWv xs d 106 0 [(0, .ref 5), (1, .int 7), (2, .int (s.1 1)), (3, .int (s.1 1))] s (fun s8 => Q s8)))) : zWv xs (d + 1) 100 0 [(0, .ref 5)] s Q := by
  unfold zWv
  refine am_wh 3 (pc1 := 5) (lv1 := [(0, .ref 5)]) (st1 := [.int 1, .int (s.1 3)]) rfl ?_
  obtain ⟨h2, h3⟩ := h
  by_cases c1 : 1 < (s.1 3).toInt
  · refine am_wb2 rfl false (zn_le (zq_a _) (by decide) (zr_t _) ⟨by decide, by decide⟩ c1) rfl ?_
    have h4 := h2 c1
    refine am_wh 5 (pc1 := 15) (lv1 := [(0, .ref 5)]) (st1 := [.int ((s.1 3) - 1), .ref 5]) rfl ?_
    refine am_w0 (z := (18, [(0, .ref 5)], [], zH (zf s 3 ((s.1 3) - 1)))) rfl rfl (zp_3 ) ?_
    refine am_wh 8 (pc1 := 35) (lv1 := [(0, .ref 5)]) (st1 := [.int (s.1 1), .int (s.1 1), .int 6, .ref 5]) rfl ?_
    refine am_wc rfl rfl rfl ?_
    refine am_ww h4 ?_
    rintro _ _ ⟨s5, rfl, rfl, h6⟩
    show am_W _ _ 100 38 [(0, .ref 5)] [] (zH s5) _
    refine am_wh 1 (pc1 := 0) (lv1 := [(0, .ref 5)]) (st1 := []) rfl ?_
    exact am_wm h6 ⟨rfl, trivial⟩
  · refine am_wb2 rfl true (zt_le (zq_a _) (by decide) (zr_t _) ⟨by decide, by decide⟩ c1) rfl ?_
    have h7 := h3 c1
    refine am_wh 8 (pc1 := 58) (lv1 := [(0, .ref 5)]) (st1 := [.int (s.1 1), .int (s.1 1), .int 7, .ref 5]) rfl ?_
    refine am_wc rfl rfl rfl ?_
    refine am_ww h7 ?_
    rintro _ _ ⟨s8, rfl, rfl, h9⟩
    show am_W _ _ 100 61 [(0, .ref 5)] [] (zH s8) _
    refine am_wr rfl rfl rfl ?_
    exact ⟨_, rfl, rfl, h9⟩
set_option maxRecDepth 100000 in
theorem vc_101_0 (xs : Option (List Int32)) (d : Nat) (s : zS) (a1 : Int32) (a2 : Int32) (Q : zS → Prop) (h : zWi xs d 102 0 [(0, .ref 5)] s (fun v3 s1 => (v3.toInt < a1.toInt → (((s1.1 3).toInt < 24 → (zX (s1.2 7) (s1.1 3).toInt ∧ zWv xs d 106 0 [(0, .ref 5), (1, .int 5), (2, .int a2), (3, .int a2)] (zf (za s1 7 (zu (s1.2 7) (s1.1 3).toInt a1)) 3 ((s1.1 3) + 1)) (fun s14 => Q s14))) ∧ (¬ (s1.1 3).toInt < 24 → (zWv xs d 106 0 [(0, .ref 5), (1, .int 5), (2, .int a2), (3, .int a2)] s1 (fun s17 => Q s17))))) ∧ (¬ v3.toInt < a1.toInt → (zWv xs (d + 1) 101 45 [(0, .ref 5), (1, .int a1), (2, .int a2)] s1 Q)))) : zWv xs (d + 1) 101 0 [(0, .ref 5), (1, .int a1), (2, .int a2)] s Q := by
  unfold zWv
  refine am_wh 2 (pc1 := 2) (lv1 := [(0, .ref 5), (1, .int a1), (2, .int a2)]) (st1 := [.ref 5, .int a1]) rfl ?_
  refine am_wc rfl rfl rfl ?_
  refine am_ww h ?_
  rintro _ _ ⟨v3, s1, rfl, rfl, h2⟩
  show am_W _ _ 101 5 [(0, .ref 5), (1, .int a1), (2, .int a2)] [.int v3, .int a1] (zH s1) _
  obtain ⟨h5, h6⟩ := h2
  by_cases c4 : v3.toInt < a1.toInt
  · refine am_wb2 rfl false (zn_le (zq_a _) (zq_a _) (zr_t _) (zr_t _) c4) rfl ?_
    have h7 := h5 c4
    refine am_wh 3 (pc1 := 14) (lv1 := [(0, .ref 5), (1, .int a1), (2, .int a2)]) (st1 := [.int 24, .int (s1.1 3)]) rfl ?_
    obtain ⟨h9, h10⟩ := h7
    by_cases c8 : (s1.1 3).toInt < 24
    · refine am_wb2 rfl false (zn_ge (zq_a _) (by decide) (zr_t _) ⟨by decide, by decide⟩ c8) rfl ?_
      have h11 := h9 c8
      refine am_wh 5 (pc1 := 26) (lv1 := [(0, .ref 5), (1, .int a1), (2, .int a2)]) (st1 := [.int a1, .int (s1.1 3), .ref 9]) rfl ?_
      obtain ⟨o12, h13⟩ := h11
      refine zw_si (l := (s1.2 7)) (i := (s1.1 3).toInt) rfl rfl (zq_a _) o12 (zh_7 _ _) ?_
      refine am_wh 5 (pc1 := 34) (lv1 := [(0, .ref 5), (1, .int a1), (2, .int a2)]) (st1 := [.int ((s1.1 3) + 1), .ref 5]) rfl ?_
      refine am_w0 (z := (37, [(0, .ref 5), (1, .int a1), (2, .int a2)], [], zH (zf (za s1 7 (zu (s1.2 7) (s1.1 3).toInt a1)) 3 ((s1.1 3) + 1)))) rfl rfl (zp_3 ) ?_
      refine am_wh 4 (pc1 := 41) (lv1 := [(0, .ref 5), (1, .int a1), (2, .int a2)]) (st1 := [.int a2, .int a2, .int 5, .ref 5]) rfl ?_
      refine am_wc rfl rfl rfl ?_
      refine am_ww h13 ?_
      rintro _ _ ⟨s14, rfl, rfl, h15⟩
      show am_W _ _ 101 44 [(0, .ref 5), (1, .int a1), (2, .int a2)] [] (zH s14) _
      refine am_wr rfl rfl rfl ?_
      exact ⟨_, rfl, rfl, h15⟩
    · refine am_wb2 rfl true (zt_ge (zq_a _) (by decide) (zr_t _) ⟨by decide, by decide⟩ c8) rfl ?_
      have h16 := h10 c8
      refine am_wh 4 (pc1 := 41) (lv1 := [(0, .ref 5), (1, .int a1), (2, .int a2)]) (st1 := [.int a2, .int a2, .int 5, .ref 5]) rfl ?_
      refine am_wc rfl rfl rfl ?_
      refine am_ww h16 ?_
      rintro _ _ ⟨s17, rfl, rfl, h18⟩
      show am_W _ _ 101 44 [(0, .ref 5), (1, .int a1), (2, .int a2)] [] (zH s17) _
      refine am_wr rfl rfl rfl ?_
      exact ⟨_, rfl, rfl, h18⟩
  · refine am_wb2 rfl true (zt_le (zq_a _) (zq_a _) (zr_t _) (zr_t _) c4) rfl ?_
    have h19 := h6 c4
    exact am_wm h19 ⟨rfl, rfl, rfl, trivial⟩
set_option maxRecDepth 100000 in
theorem vc_101_45 (xs : Option (List Int32)) (d : Nat) (s : zS) (a1 : Int32) (a2 : Int32) (Q : zS → Prop) (h : (1 < (s.1 3).toInt → (zX (s.2 7) ((s.1 3).toInt - 1) ∧ (a1.toInt < (zg (s.2 7) ((s.1 3).toInt - 1)).toInt → (zWv xs d 106 0 [(0, .ref 5), (1, .int 6), (2, .int a2), (3, .int a2)] (zf s 3 ((s.1 3) - 1)) (fun s11 => zWv xs (d + 1) 101 45 [(0, .ref 5), (1, .int a1), (2, .int a2)] s11 Q))) ∧ (¬ a1.toInt < (zg (s.2 7) ((s.1 3).toInt - 1)).toInt → (zWi xs d 102 0 [(0, .ref 5)] s (fun v16 s14 => (v16.toInt = a1.toInt → (Q s14)) ∧ (¬ v16.toInt = a1.toInt → (zWv xs d 106 0 [(0, .ref 5), (1, .int 8), (2, .int a2), (3, .int a2)] s14 (fun s22 => Q s22)))))))) ∧ (¬ 1 < (s.1 3).toInt → (zWi xs d 102 0 [(0, .ref 5)] s (fun v27 s25 => (v27.toInt = a1.toInt → (Q s25)) ∧ (¬ v27.toInt = a1.toInt → (zWv xs d 106 0 [(0, .ref 5), (1, .int 8), (2, .int a2), (3, .int a2)] s25 (fun s33 => Q s33))))))) : zWv xs (d + 1) 101 45 [(0, .ref 5), (1, .int a1), (2, .int a2)] s Q := by
  unfold zWv
  refine am_wh 3 (pc1 := 50) (lv1 := [(0, .ref 5), (1, .int a1), (2, .int a2)]) (st1 := [.int 1, .int (s.1 3)]) rfl ?_
  obtain ⟨h2, h3⟩ := h
  by_cases c1 : 1 < (s.1 3).toInt
  · refine am_wb2 rfl false (zn_le (zq_a _) (by decide) (zr_t _) ⟨by decide, by decide⟩ c1) rfl ?_
    have h4 := h2 c1
    refine am_wh 6 (pc1 := 63) (lv1 := [(0, .ref 5), (1, .int a1), (2, .int a2)]) (st1 := [.int ((s.1 3) - 1), .ref 9]) rfl ?_
    obtain ⟨o5, h6⟩ := h4
    refine zw_li (l := (s.2 7)) (i := ((s.1 3).toInt - 1)) rfl rfl (zq_sub (zq_a _) (by decide)) o5 ?_
    refine am_wh 1 (pc1 := 65) (lv1 := [(0, .ref 5), (1, .int a1), (2, .int a2)]) (st1 := [.int a1, .int (zg (s.2 7) ((s.1 3).toInt - 1))]) rfl ?_
    obtain ⟨h8, h9⟩ := h6
    by_cases c7 : a1.toInt < (zg (s.2 7) ((s.1 3).toInt - 1)).toInt
    · refine am_wb2 rfl false (zn_le (zq_a _) (zq_a _) (zr_t _) (zr_t _) c7) rfl ?_
      have h10 := h8 c7
      refine am_wh 5 (pc1 := 75) (lv1 := [(0, .ref 5), (1, .int a1), (2, .int a2)]) (st1 := [.int ((s.1 3) - 1), .ref 5]) rfl ?_
      refine am_w0 (z := (78, [(0, .ref 5), (1, .int a1), (2, .int a2)], [], zH (zf s 3 ((s.1 3) - 1)))) rfl rfl (zp_3 ) ?_
      refine am_wh 4 (pc1 := 83) (lv1 := [(0, .ref 5), (1, .int a1), (2, .int a2)]) (st1 := [.int a2, .int a2, .int 6, .ref 5]) rfl ?_
      refine am_wc rfl rfl rfl ?_
      refine am_ww h10 ?_
      rintro _ _ ⟨s11, rfl, rfl, h12⟩
      show am_W _ _ 101 86 [(0, .ref 5), (1, .int a1), (2, .int a2)] [] (zH s11) _
      refine am_wh 1 (pc1 := 45) (lv1 := [(0, .ref 5), (1, .int a1), (2, .int a2)]) (st1 := []) rfl ?_
      exact am_wm h12 ⟨rfl, rfl, rfl, trivial⟩
    · refine am_wb2 rfl true (zt_le (zq_a _) (zq_a _) (zr_t _) (zr_t _) c7) rfl ?_
      have h13 := h9 c7
      refine am_wh 1 (pc1 := 90) (lv1 := [(0, .ref 5), (1, .int a1), (2, .int a2)]) (st1 := [.ref 5]) rfl ?_
      refine am_wc rfl rfl rfl ?_
      refine am_ww h13 ?_
      rintro _ _ ⟨v16, s14, rfl, rfl, h15⟩
      show am_W _ _ 101 93 [(0, .ref 5), (1, .int a1), (2, .int a2)] [.int v16] (zH s14) _
      refine am_wh 1 (pc1 := 94) (lv1 := [(0, .ref 5), (1, .int a1), (2, .int a2)]) (st1 := [.int a1, .int v16]) rfl ?_
      obtain ⟨h18, h19⟩ := h15
      by_cases c17 : v16.toInt = a1.toInt
      · refine am_wb2 rfl true (zt_eq (zq_a _) (zq_a _) (zr_t _) (zr_t _) c17) rfl ?_
        have h20 := h18 c17
        refine am_wr rfl rfl rfl ?_
        exact ⟨_, rfl, rfl, h20⟩
      · refine am_wb2 rfl false (zn_eq (zq_a _) (zq_a _) (zr_t _) (zr_t _) c17) rfl ?_
        have h21 := h19 c17
        refine am_wh 4 (pc1 := 102) (lv1 := [(0, .ref 5), (1, .int a1), (2, .int a2)]) (st1 := [.int a2, .int a2, .int 8, .ref 5]) rfl ?_
        refine am_wc rfl rfl rfl ?_
        refine am_ww h21 ?_
        rintro _ _ ⟨s22, rfl, rfl, h23⟩
        show am_W _ _ 101 105 [(0, .ref 5), (1, .int a1), (2, .int a2)] [] (zH s22) _
        refine am_wr rfl rfl rfl ?_
        exact ⟨_, rfl, rfl, h23⟩
  · refine am_wb2 rfl true (zt_le (zq_a _) (by decide) (zr_t _) ⟨by decide, by decide⟩ c1) rfl ?_
    have h24 := h3 c1
    refine am_wh 1 (pc1 := 90) (lv1 := [(0, .ref 5), (1, .int a1), (2, .int a2)]) (st1 := [.ref 5]) rfl ?_
    refine am_wc rfl rfl rfl ?_
    refine am_ww h24 ?_
    rintro _ _ ⟨v27, s25, rfl, rfl, h26⟩
    show am_W _ _ 101 93 [(0, .ref 5), (1, .int a1), (2, .int a2)] [.int v27] (zH s25) _
    refine am_wh 1 (pc1 := 94) (lv1 := [(0, .ref 5), (1, .int a1), (2, .int a2)]) (st1 := [.int a1, .int v27]) rfl ?_
    obtain ⟨h29, h30⟩ := h26
    by_cases c28 : v27.toInt = a1.toInt
    · refine am_wb2 rfl true (zt_eq (zq_a _) (zq_a _) (zr_t _) (zr_t _) c28) rfl ?_
      have h31 := h29 c28
      refine am_wr rfl rfl rfl ?_
      exact ⟨_, rfl, rfl, h31⟩
    · refine am_wb2 rfl false (zn_eq (zq_a _) (zq_a _) (zr_t _) (zr_t _) c28) rfl ?_
      have h32 := h30 c28
      refine am_wh 4 (pc1 := 102) (lv1 := [(0, .ref 5), (1, .int a1), (2, .int a2)]) (st1 := [.int a2, .int a2, .int 8, .ref 5]) rfl ?_
      refine am_wc rfl rfl rfl ?_
      refine am_ww h32 ?_
      rintro _ _ ⟨s33, rfl, rfl, h34⟩
      show am_W _ _ 101 105 [(0, .ref 5), (1, .int a1), (2, .int a2)] [] (zH s33) _
      refine am_wr rfl rfl rfl ?_
      exact ⟨_, rfl, rfl, h34⟩
set_option maxRecDepth 100000 in
theorem vc_102_0 (xs : Option (List Int32)) (d : Nat) (s : zS)  (Q : Int32 → zS → Prop) (h : (1 < (s.1 3).toInt → (zX (s.2 7) ((s.1 3).toInt - 1) ∧ Q (zg (s.2 7) ((s.1 3).toInt - 1)) s)) ∧ (¬ 1 < (s.1 3).toInt → (Q 0 s))) : zWi xs d 102 0 [(0, .ref 5)] s Q := by
  unfold zWi
  refine am_wh 3 (pc1 := 5) (lv1 := [(0, .ref 5)]) (st1 := [.int 1, .int (s.1 3)]) rfl ?_
  obtain ⟨h2, h3⟩ := h
  by_cases c1 : 1 < (s.1 3).toInt
  · refine am_wb2 rfl false (zn_le (zq_a _) (by decide) (zr_t _) ⟨by decide, by decide⟩ c1) rfl ?_
    have h4 := h2 c1
    refine am_wh 6 (pc1 := 18) (lv1 := [(0, .ref 5)]) (st1 := [.int ((s.1 3) - 1), .ref 9]) rfl ?_
    obtain ⟨o5, h6⟩ := h4
    refine zw_li (l := (s.2 7)) (i := ((s.1 3).toInt - 1)) rfl rfl (zq_sub (zq_a _) (by decide)) o5 ?_
    refine am_wh 1 (pc1 := 23) (lv1 := [(0, .ref 5)]) (st1 := [.int (zg (s.2 7) ((s.1 3).toInt - 1))]) rfl ?_
    refine am_wr rfl rfl rfl ?_
    exact ⟨_, _, rfl, rfl, h6⟩
  · refine am_wb2 rfl true (zt_le (zq_a _) (by decide) (zr_t _) ⟨by decide, by decide⟩ c1) rfl ?_
    have h7 := h3 c1
    refine am_wh 1 (pc1 := 23) (lv1 := [(0, .ref 5)]) (st1 := [.int 0]) rfl ?_
    refine am_wr rfl rfl rfl ?_
    exact ⟨_, _, rfl, rfl, h7⟩
set_option maxRecDepth 100000 in
theorem vc_103_0 (xs : Option (List Int32)) (d : Nat) (s : zS) (a1 : Int32) (Q : Int32 → zS → Prop) (h : zWi xs d 85 0 [(0, .ref 3), (1, .int a1)] s (fun v3 s1 => zWi xs d 83 0 [(0, .int v3)] s1 (fun v6 s4 => (v6.toInt = 0 → (zWi xs d 82 0 [(0, .int v3)] s4 (fun v13 s11 => (v13.toInt = 0 → ((v3.toInt = 58 → (zWi xs d 85 0 [(0, .ref 3), (1, .int (a1 + 1))] s11 (fun v24 s22 => (v24.toInt = 61 → (zWv xs d 106 0 [(0, .ref 5), (1, .int 128), (2, .int a1), (3, .int (a1 + 2))] s22 (fun s29 => Q (a1 + 2) s29))) ∧ (¬ v24.toInt = 61 → (zWi xs d 104 0 [(0, .int v3)] s22 (fun v34 s32 => (v34.toInt = 0 → (zWv xs d 106 0 [(0, .ref 5), (1, .int 8), (2, .int a1), (3, .int (a1 + 1))] s32 (fun s39 => Q (a1 + 1) s39))) ∧ (¬ v34.toInt = 0 → (zWv xs d 105 0 [(0, .ref 5), (1, .int v3)] s32 (fun s42 => zWv xs d 106 0 [(0, .ref 5), (1, .int v3), (2, .int a1), (3, .int (a1 + 1))] s42 (fun s44 => Q (a1 + 1) s44)))))))))) ∧ (¬ v3.toInt = 58 → (zWi xs d 104 0 [(0, .int v3)] s11 (fun v49 s47 => (v49.toInt = 0 → (zWv xs d 106 0 [(0, .ref 5), (1, .int 8), (2, .int a1), (3, .int (a1 + 1))] s47 (fun s54 => Q (a1 + 1) s54))) ∧ (¬ v49.toInt = 0 → (zWv xs d 105 0 [(0, .ref 5), (1, .int v3)] s47 (fun s57 => zWv xs d 106 0 [(0, .ref 5), (1, .int v3), (2, .int a1), (3, .int (a1 + 1))] s57 (fun s59 => Q (a1 + 1) s59))))))))) ∧ (¬ v13.toInt = 0 → (zWi xs d 88 0 [(0, .ref 3), (1, .int a1)] s11 (fun v64 s62 => zWv xs d 106 0 [(0, .ref 5), (1, .int 1), (2, .int a1), (3, .int v64)] s62 (fun s65 => Q v64 s65))))))) ∧ (¬ v6.toInt = 0 → (zWi xs d 89 0 [(0, .ref 3), (1, .int a1)] s4 (fun v70 s68 => zWl xs d 91 0 [(0, .ref 3), (1, .int a1), (2, .int v70)] s68 (fun v73 s71 => zWi xs d 93 0 [(0, .long v73)] s71 (fun v76 s74 => zWv xs d 106 0 [(0, .ref 5), (1, .int v76), (2, .int a1), (3, .int v70)] s74 (fun s77 => Q v70 s77))))))))) : zWi xs (d + 1) 103 0 [(0, .ref 5), (1, .int a1)] s Q := by
  unfold zWi
  refine am_wh 3 (pc1 := 5) (lv1 := [(0, .ref 5), (1, .int a1)]) (st1 := [.int a1, .ref 3]) rfl ?_
  refine am_wc rfl rfl rfl ?_
  refine am_ww h ?_
  rintro _ _ ⟨v3, s1, rfl, rfl, h2⟩
  show am_W _ _ 103 8 [(0, .ref 5), (1, .int a1)] [.int v3] (zH s1) _
  refine am_wh 8 (pc1 := 18) (lv1 := [(4, .int 8), (3, .int (a1 + 1)), (2, .int v3), (0, .ref 5), (1, .int a1)]) (st1 := [.int v3]) rfl ?_
  refine am_wc rfl rfl rfl ?_
  refine am_ww h2 ?_
  rintro _ _ ⟨v6, s4, rfl, rfl, h5⟩
  show am_W _ _ 103 21 [(4, .int 8), (3, .int (a1 + 1)), (2, .int v3), (0, .ref 5), (1, .int a1)] [.int v6] (zH s4) _
  obtain ⟨h8, h9⟩ := h5
  by_cases c7 : v6.toInt = 0
  · refine am_wb1 rfl true (zt_eq (zq_a _) (by decide) (zr_t _) ⟨by decide, by decide⟩ c7) rfl ?_
    have h10 := h8 c7
    refine am_wh 1 (pc1 := 51) (lv1 := [(4, .int 8), (3, .int (a1 + 1)), (2, .int v3), (0, .ref 5), (1, .int a1)]) (st1 := [.int v3]) rfl ?_
    refine am_wc rfl rfl rfl ?_
    refine am_ww h10 ?_
    rintro _ _ ⟨v13, s11, rfl, rfl, h12⟩
    show am_W _ _ 103 54 [(4, .int 8), (3, .int (a1 + 1)), (2, .int v3), (0, .ref 5), (1, .int a1)] [.int v13] (zH s11) _
    obtain ⟨h15, h16⟩ := h12
    by_cases c14 : v13.toInt = 0
    · refine am_wb1 rfl true (zt_eq (zq_a _) (by decide) (zr_t _) ⟨by decide, by decide⟩ c14) rfl ?_
      have h17 := h15 c14
      refine am_wh 2 (pc1 := 75) (lv1 := [(4, .int 8), (3, .int (a1 + 1)), (2, .int v3), (0, .ref 5), (1, .int a1)]) (st1 := [.int 58, .int v3]) rfl ?_
      obtain ⟨h19, h20⟩ := h17
      by_cases c18 : v3.toInt = 58
      · refine am_wb2 rfl false (zn_ne (zq_a _) (by decide) (zr_t _) ⟨by decide, by decide⟩ c18) rfl ?_
        have h21 := h19 c18
        refine am_wh 5 (pc1 := 85) (lv1 := [(4, .int 8), (3, .int (a1 + 1)), (2, .int v3), (0, .ref 5), (1, .int a1)]) (st1 := [.int (a1 + 1), .ref 3]) rfl ?_
        refine am_wc rfl rfl rfl ?_
        refine am_ww h21 ?_
        rintro _ _ ⟨v24, s22, rfl, rfl, h23⟩
        show am_W _ _ 103 88 [(4, .int 8), (3, .int (a1 + 1)), (2, .int v3), (0, .ref 5), (1, .int a1)] [.int v24] (zH s22) _
        refine am_wh 1 (pc1 := 90) (lv1 := [(4, .int 8), (3, .int (a1 + 1)), (2, .int v3), (0, .ref 5), (1, .int a1)]) (st1 := [.int 61, .int v24]) rfl ?_
        obtain ⟨h26, h27⟩ := h23
        by_cases c25 : v24.toInt = 61
        · refine am_wb2 rfl false (zn_ne (zq_a _) (by decide) (zr_t _) ⟨by decide, by decide⟩ c25) rfl ?_
          have h28 := h26 c25
          refine am_wh 11 (pc1 := 125) (lv1 := [(4, .int 128), (3, .int (a1 + 2)), (2, .int v3), (0, .ref 5), (1, .int a1)]) (st1 := [.int (a1 + 2), .int a1, .int 128, .ref 5]) rfl ?_
          refine am_wc rfl rfl rfl ?_
          refine am_ww h28 ?_
          rintro _ _ ⟨s29, rfl, rfl, h30⟩
          show am_W _ _ 103 128 [(4, .int 128), (3, .int (a1 + 2)), (2, .int v3), (0, .ref 5), (1, .int a1)] [] (zH s29) _
          refine am_wh 1 (pc1 := 129) (lv1 := [(4, .int 128), (3, .int (a1 + 2)), (2, .int v3), (0, .ref 5), (1, .int a1)]) (st1 := [.int (a1 + 2)]) rfl ?_
          refine am_wr rfl rfl rfl ?_
          exact ⟨_, _, rfl, rfl, h30⟩
        · refine am_wb2 rfl true (zt_ne (zq_a _) (by decide) (zr_t _) ⟨by decide, by decide⟩ c25) rfl ?_
          have h31 := h27 c25
          refine am_wh 1 (pc1 := 106) (lv1 := [(4, .int 8), (3, .int (a1 + 1)), (2, .int v3), (0, .ref 5), (1, .int a1)]) (st1 := [.int v3]) rfl ?_
          refine am_wc rfl rfl rfl ?_
          refine am_ww h31 ?_
          rintro _ _ ⟨v34, s32, rfl, rfl, h33⟩
          show am_W _ _ 103 109 [(4, .int 8), (3, .int (a1 + 1)), (2, .int v3), (0, .ref 5), (1, .int a1)] [.int v34] (zH s32) _
          obtain ⟨h36, h37⟩ := h33
          by_cases c35 : v34.toInt = 0
          · refine am_wb1 rfl true (zt_eq (zq_a _) (by decide) (zr_t _) ⟨by decide, by decide⟩ c35) rfl ?_
            have h38 := h36 c35
            refine am_wh 4 (pc1 := 125) (lv1 := [(4, .int 8), (3, .int (a1 + 1)), (2, .int v3), (0, .ref 5), (1, .int a1)]) (st1 := [.int (a1 + 1), .int a1, .int 8, .ref 5]) rfl ?_
            refine am_wc rfl rfl rfl ?_
            refine am_ww h38 ?_
            rintro _ _ ⟨s39, rfl, rfl, h40⟩
            show am_W _ _ 103 128 [(4, .int 8), (3, .int (a1 + 1)), (2, .int v3), (0, .ref 5), (1, .int a1)] [] (zH s39) _
            refine am_wh 1 (pc1 := 129) (lv1 := [(4, .int 8), (3, .int (a1 + 1)), (2, .int v3), (0, .ref 5), (1, .int a1)]) (st1 := [.int (a1 + 1)]) rfl ?_
            refine am_wr rfl rfl rfl ?_
            exact ⟨_, _, rfl, rfl, h40⟩
          · refine am_wb1 rfl false (zn_eq (zq_a _) (by decide) (zr_t _) ⟨by decide, by decide⟩ c35) rfl ?_
            have h41 := h37 c35
            refine am_wh 4 (pc1 := 117) (lv1 := [(4, .int v3), (3, .int (a1 + 1)), (2, .int v3), (0, .ref 5), (1, .int a1)]) (st1 := [.int v3, .ref 5]) rfl ?_
            refine am_wc rfl rfl rfl ?_
            refine am_ww h41 ?_
            rintro _ _ ⟨s42, rfl, rfl, h43⟩
            show am_W _ _ 103 120 [(4, .int v3), (3, .int (a1 + 1)), (2, .int v3), (0, .ref 5), (1, .int a1)] [] (zH s42) _
            refine am_wh 4 (pc1 := 125) (lv1 := [(4, .int v3), (3, .int (a1 + 1)), (2, .int v3), (0, .ref 5), (1, .int a1)]) (st1 := [.int (a1 + 1), .int a1, .int v3, .ref 5]) rfl ?_
            refine am_wc rfl rfl rfl ?_
            refine am_ww h43 ?_
            rintro _ _ ⟨s44, rfl, rfl, h45⟩
            show am_W _ _ 103 128 [(4, .int v3), (3, .int (a1 + 1)), (2, .int v3), (0, .ref 5), (1, .int a1)] [] (zH s44) _
            refine am_wh 1 (pc1 := 129) (lv1 := [(4, .int v3), (3, .int (a1 + 1)), (2, .int v3), (0, .ref 5), (1, .int a1)]) (st1 := [.int (a1 + 1)]) rfl ?_
            refine am_wr rfl rfl rfl ?_
            exact ⟨_, _, rfl, rfl, h45⟩
      · refine am_wb2 rfl true (zt_ne (zq_a _) (by decide) (zr_t _) ⟨by decide, by decide⟩ c18) rfl ?_
        have h46 := h20 c18
        refine am_wh 1 (pc1 := 106) (lv1 := [(4, .int 8), (3, .int (a1 + 1)), (2, .int v3), (0, .ref 5), (1, .int a1)]) (st1 := [.int v3]) rfl ?_
        refine am_wc rfl rfl rfl ?_
        refine am_ww h46 ?_
        rintro _ _ ⟨v49, s47, rfl, rfl, h48⟩
        show am_W _ _ 103 109 [(4, .int 8), (3, .int (a1 + 1)), (2, .int v3), (0, .ref 5), (1, .int a1)] [.int v49] (zH s47) _
        obtain ⟨h51, h52⟩ := h48
        by_cases c50 : v49.toInt = 0
        · refine am_wb1 rfl true (zt_eq (zq_a _) (by decide) (zr_t _) ⟨by decide, by decide⟩ c50) rfl ?_
          have h53 := h51 c50
          refine am_wh 4 (pc1 := 125) (lv1 := [(4, .int 8), (3, .int (a1 + 1)), (2, .int v3), (0, .ref 5), (1, .int a1)]) (st1 := [.int (a1 + 1), .int a1, .int 8, .ref 5]) rfl ?_
          refine am_wc rfl rfl rfl ?_
          refine am_ww h53 ?_
          rintro _ _ ⟨s54, rfl, rfl, h55⟩
          show am_W _ _ 103 128 [(4, .int 8), (3, .int (a1 + 1)), (2, .int v3), (0, .ref 5), (1, .int a1)] [] (zH s54) _
          refine am_wh 1 (pc1 := 129) (lv1 := [(4, .int 8), (3, .int (a1 + 1)), (2, .int v3), (0, .ref 5), (1, .int a1)]) (st1 := [.int (a1 + 1)]) rfl ?_
          refine am_wr rfl rfl rfl ?_
          exact ⟨_, _, rfl, rfl, h55⟩
        · refine am_wb1 rfl false (zn_eq (zq_a _) (by decide) (zr_t _) ⟨by decide, by decide⟩ c50) rfl ?_
          have h56 := h52 c50
          refine am_wh 4 (pc1 := 117) (lv1 := [(4, .int v3), (3, .int (a1 + 1)), (2, .int v3), (0, .ref 5), (1, .int a1)]) (st1 := [.int v3, .ref 5]) rfl ?_
          refine am_wc rfl rfl rfl ?_
          refine am_ww h56 ?_
          rintro _ _ ⟨s57, rfl, rfl, h58⟩
          show am_W _ _ 103 120 [(4, .int v3), (3, .int (a1 + 1)), (2, .int v3), (0, .ref 5), (1, .int a1)] [] (zH s57) _
          refine am_wh 4 (pc1 := 125) (lv1 := [(4, .int v3), (3, .int (a1 + 1)), (2, .int v3), (0, .ref 5), (1, .int a1)]) (st1 := [.int (a1 + 1), .int a1, .int v3, .ref 5]) rfl ?_
          refine am_wc rfl rfl rfl ?_
          refine am_ww h58 ?_
          rintro _ _ ⟨s59, rfl, rfl, h60⟩
          show am_W _ _ 103 128 [(4, .int v3), (3, .int (a1 + 1)), (2, .int v3), (0, .ref 5), (1, .int a1)] [] (zH s59) _
          refine am_wh 1 (pc1 := 129) (lv1 := [(4, .int v3), (3, .int (a1 + 1)), (2, .int v3), (0, .ref 5), (1, .int a1)]) (st1 := [.int (a1 + 1)]) rfl ?_
          refine am_wr rfl rfl rfl ?_
          exact ⟨_, _, rfl, rfl, h60⟩
    · refine am_wb1 rfl false (zn_eq (zq_a _) (by decide) (zr_t _) ⟨by decide, by decide⟩ c14) rfl ?_
      have h61 := h16 c14
      refine am_wh 3 (pc1 := 62) (lv1 := [(4, .int 8), (3, .int (a1 + 1)), (2, .int v3), (0, .ref 5), (1, .int a1)]) (st1 := [.int a1, .ref 3]) rfl ?_
      refine am_wc rfl rfl rfl ?_
      refine am_ww h61 ?_
      rintro _ _ ⟨v64, s62, rfl, rfl, h63⟩
      show am_W _ _ 103 65 [(4, .int 8), (3, .int (a1 + 1)), (2, .int v3), (0, .ref 5), (1, .int a1)] [.int v64] (zH s62) _
      refine am_wh 8 (pc1 := 125) (lv1 := [(4, .int 1), (3, .int v64), (2, .int v3), (0, .ref 5), (1, .int a1)]) (st1 := [.int v64, .int a1, .int 1, .ref 5]) rfl ?_
      refine am_wc rfl rfl rfl ?_
      refine am_ww h63 ?_
      rintro _ _ ⟨s65, rfl, rfl, h66⟩
      show am_W _ _ 103 128 [(4, .int 1), (3, .int v64), (2, .int v3), (0, .ref 5), (1, .int a1)] [] (zH s65) _
      refine am_wh 1 (pc1 := 129) (lv1 := [(4, .int 1), (3, .int v64), (2, .int v3), (0, .ref 5), (1, .int a1)]) (st1 := [.int v64]) rfl ?_
      refine am_wr rfl rfl rfl ?_
      exact ⟨_, _, rfl, rfl, h66⟩
  · refine am_wb1 rfl false (zn_eq (zq_a _) (by decide) (zr_t _) ⟨by decide, by decide⟩ c7) rfl ?_
    have h67 := h9 c7
    refine am_wh 3 (pc1 := 29) (lv1 := [(4, .int 8), (3, .int (a1 + 1)), (2, .int v3), (0, .ref 5), (1, .int a1)]) (st1 := [.int a1, .ref 3]) rfl ?_
    refine am_wc rfl rfl rfl ?_
    refine am_ww h67 ?_
    rintro _ _ ⟨v70, s68, rfl, rfl, h69⟩
    show am_W _ _ 103 32 [(4, .int 8), (3, .int (a1 + 1)), (2, .int v3), (0, .ref 5), (1, .int a1)] [.int v70] (zH s68) _
    refine am_wh 5 (pc1 := 39) (lv1 := [(3, .int v70), (4, .int 8), (2, .int v3), (0, .ref 5), (1, .int a1)]) (st1 := [.int v70, .int a1, .ref 3]) rfl ?_
    refine am_wc rfl rfl rfl ?_
    refine am_ww h69 ?_
    rintro _ _ ⟨v73, s71, rfl, rfl, h72⟩
    show am_W _ _ 103 42 [(3, .int v70), (4, .int 8), (2, .int v3), (0, .ref 5), (1, .int a1)] [.long v73] (zH s71) _
    refine am_wc rfl rfl rfl ?_
    refine am_ww h72 ?_
    rintro _ _ ⟨v76, s74, rfl, rfl, h75⟩
    show am_W _ _ 103 45 [(3, .int v70), (4, .int 8), (2, .int v3), (0, .ref 5), (1, .int a1)] [.int v76] (zH s74) _
    refine am_wh 6 (pc1 := 125) (lv1 := [(4, .int v76), (3, .int v70), (2, .int v3), (0, .ref 5), (1, .int a1)]) (st1 := [.int v70, .int a1, .int v76, .ref 5]) rfl ?_
    refine am_wc rfl rfl rfl ?_
    refine am_ww h75 ?_
    rintro _ _ ⟨s77, rfl, rfl, h78⟩
    show am_W _ _ 103 128 [(4, .int v76), (3, .int v70), (2, .int v3), (0, .ref 5), (1, .int a1)] [] (zH s77) _
    refine am_wh 1 (pc1 := 129) (lv1 := [(4, .int v76), (3, .int v70), (2, .int v3), (0, .ref 5), (1, .int a1)]) (st1 := [.int v70]) rfl ?_
    refine am_wr rfl rfl rfl ?_
    exact ⟨_, _, rfl, rfl, h78⟩
set_option maxRecDepth 100000 in
theorem vc_104_0 (xs : Option (List Int32)) (d : Nat) (s : zS) (a0 : Int32) (Q : Int32 → zS → Prop) (h : (a0.toInt = 40 ∨ a0.toInt = 41 ∨ a0.toInt = 43 ∨ a0.toInt = 44 ∨ a0.toInt = 58 ∨ a0.toInt = 61 ∨ a0.toInt = 91 ∨ a0.toInt = 93 → (Q 1 s)) ∧ (¬ a0.toInt = 40 ∧ ¬ a0.toInt = 41 ∧ ¬ a0.toInt = 43 ∧ ¬ a0.toInt = 44 ∧ ¬ a0.toInt = 58 ∧ ¬ a0.toInt = 61 ∧ ¬ a0.toInt = 91 ∧ ¬ a0.toInt = 93 → (Q 0 s))) : zWi xs d 104 0 [(0, .int a0)] s Q := by
  unfold zWi
  refine am_wh 1 (pc1 := 1) (lv1 := [(0, .int a0)]) (st1 := [.int a0]) rfl ?_
  obtain ⟨h1, h2⟩ := h
  by_cases c3 : a0.toInt = 40 ∨ a0.toInt = 41 ∨ a0.toInt = 43 ∨ a0.toInt = 44 ∨ a0.toInt = 58 ∨ a0.toInt = 61 ∨ a0.toInt = 91 ∨ a0.toInt = 93
  · refine zw_lk (tgt := 76) rfl (by rcases c3 with e | e | e | e | e | e | e | e <;> (rw [(show a0 = zI a0.toInt from (zq_a _)), e]; rfl)) ?_
    have h4 := h1 c3
    refine am_wh 1 (pc1 := 77) (lv1 := [(0, .int a0)]) (st1 := [.int 1]) rfl ?_
    refine am_wr rfl rfl rfl ?_
    exact ⟨_, _, rfl, rfl, h4⟩
  have c6 : ¬ a0.toInt = 40 ∧ ¬ a0.toInt = 41 ∧ ¬ a0.toInt = 43 ∧ ¬ a0.toInt = 44 ∧ ¬ a0.toInt = 58 ∧ ¬ a0.toInt = 61 ∧ ¬ a0.toInt = 91 ∧ ¬ a0.toInt = 93 := by omega
  refine zw_lk (tgt := 78) rfl ?_ ?_
  · show am_to 1 (if (40 : Int) = a0.toInt then (75 : Int) else if (41 : Int) = a0.toInt then (75 : Int) else if (43 : Int) = a0.toInt then (75 : Int) else if (44 : Int) = a0.toInt then (75 : Int) else if (58 : Int) = a0.toInt then (75 : Int) else if (61 : Int) = a0.toInt then (75 : Int) else if (91 : Int) = a0.toInt then (75 : Int) else if (93 : Int) = a0.toInt then (75 : Int) else 77) = _
    rw [if_neg (by omega), if_neg (by omega), if_neg (by omega), if_neg (by omega), if_neg (by omega), if_neg (by omega), if_neg (by omega), if_neg (by omega)]
    rfl
  have h5 := h2 c6
  refine am_wh 1 (pc1 := 79) (lv1 := [(0, .int a0)]) (st1 := [.int 0]) rfl ?_
  refine am_wr rfl rfl rfl ?_
  exact ⟨_, _, rfl, rfl, h5⟩
set_option maxRecDepth 100000 in
theorem vc_105_0 (xs : Option (List Int32)) (d : Nat) (s : zS) (a1 : Int32) (Q : zS → Prop) (h : (a1.toInt = 40 → (Q (zf s 4 ((s.1 4) + 1)))) ∧ (¬ a1.toInt = 40 → ((a1.toInt = 91 → (Q (zf s 4 ((s.1 4) + 1)))) ∧ (¬ a1.toInt = 91 → ((a1.toInt = 41 → ((0 < (s.1 4).toInt → (Q (zf s 4 ((s.1 4) - 1)))) ∧ (¬ 0 < (s.1 4).toInt → (Q s)))) ∧ (¬ a1.toInt = 41 → ((a1.toInt = 93 → ((0 < (s.1 4).toInt → (Q (zf s 4 ((s.1 4) - 1)))) ∧ (¬ 0 < (s.1 4).toInt → (Q s)))) ∧ (¬ a1.toInt = 93 → (Q s))))))))) : zWv xs d 105 0 [(0, .ref 5), (1, .int a1)] s Q := by
  unfold zWv
  refine am_wh 2 (pc1 := 3) (lv1 := [(0, .ref 5), (1, .int a1)]) (st1 := [.int 40, .int a1]) rfl ?_
  obtain ⟨h2, h3⟩ := h
  by_cases c1 : a1.toInt = 40
  · refine am_wb2 rfl true (zt_eq (zq_a _) (by decide) (zr_t _) ⟨by decide, by decide⟩ c1) rfl ?_
    have h4 := h2 c1
    refine am_wh 5 (pc1 := 19) (lv1 := [(0, .ref 5), (1, .int a1)]) (st1 := [.int ((s.1 4) + 1), .ref 5]) rfl ?_
    refine am_w0 (z := (22, [(0, .ref 5), (1, .int a1)], [], zH (zf s 4 ((s.1 4) + 1)))) rfl rfl (zp_4 ) ?_
    refine am_wh 1 (pc1 := 54) (lv1 := [(0, .ref 5), (1, .int a1)]) (st1 := []) rfl ?_
    refine am_wr rfl rfl rfl ?_
    exact ⟨_, rfl, rfl, h4⟩
  · refine am_wb2 rfl false (zn_eq (zq_a _) (by decide) (zr_t _) ⟨by decide, by decide⟩ c1) rfl ?_
    have h5 := h3 c1
    refine am_wh 2 (pc1 := 9) (lv1 := [(0, .ref 5), (1, .int a1)]) (st1 := [.int 91, .int a1]) rfl ?_
    obtain ⟨h7, h8⟩ := h5
    by_cases c6 : a1.toInt = 91
    · refine am_wb2 rfl false (zn_ne (zq_a _) (by decide) (zr_t _) ⟨by decide, by decide⟩ c6) rfl ?_
      have h9 := h7 c6
      refine am_wh 5 (pc1 := 19) (lv1 := [(0, .ref 5), (1, .int a1)]) (st1 := [.int ((s.1 4) + 1), .ref 5]) rfl ?_
      refine am_w0 (z := (22, [(0, .ref 5), (1, .int a1)], [], zH (zf s 4 ((s.1 4) + 1)))) rfl rfl (zp_4 ) ?_
      refine am_wh 1 (pc1 := 54) (lv1 := [(0, .ref 5), (1, .int a1)]) (st1 := []) rfl ?_
      refine am_wr rfl rfl rfl ?_
      exact ⟨_, rfl, rfl, h9⟩
    · refine am_wb2 rfl true (zt_ne (zq_a _) (by decide) (zr_t _) ⟨by decide, by decide⟩ c6) rfl ?_
      have h10 := h8 c6
      refine am_wh 2 (pc1 := 28) (lv1 := [(0, .ref 5), (1, .int a1)]) (st1 := [.int 41, .int a1]) rfl ?_
      obtain ⟨h12, h13⟩ := h10
      by_cases c11 : a1.toInt = 41
      · refine am_wb2 rfl true (zt_eq (zq_a _) (by decide) (zr_t _) ⟨by decide, by decide⟩ c11) rfl ?_
        have h14 := h12 c11
        refine am_wh 2 (pc1 := 41) (lv1 := [(0, .ref 5), (1, .int a1)]) (st1 := [.int (s.1 4)]) rfl ?_
        obtain ⟨h16, h17⟩ := h14
        by_cases c15 : 0 < (s.1 4).toInt
        · refine am_wb1 rfl false (zn_le (zq_a _) (by decide) (zr_t _) ⟨by decide, by decide⟩ c15) rfl ?_
          have h18 := h16 c15
          refine am_wh 5 (pc1 := 51) (lv1 := [(0, .ref 5), (1, .int a1)]) (st1 := [.int ((s.1 4) - 1), .ref 5]) rfl ?_
          refine am_w0 (z := (54, [(0, .ref 5), (1, .int a1)], [], zH (zf s 4 ((s.1 4) - 1)))) rfl rfl (zp_4 ) ?_
          refine am_wr rfl rfl rfl ?_
          exact ⟨_, rfl, rfl, h18⟩
        · refine am_wb1 rfl true (zt_le (zq_a _) (by decide) (zr_t _) ⟨by decide, by decide⟩ c15) rfl ?_
          have h19 := h17 c15
          refine am_wr rfl rfl rfl ?_
          exact ⟨_, rfl, rfl, h19⟩
      · refine am_wb2 rfl false (zn_eq (zq_a _) (by decide) (zr_t _) ⟨by decide, by decide⟩ c11) rfl ?_
        have h20 := h13 c11
        refine am_wh 2 (pc1 := 34) (lv1 := [(0, .ref 5), (1, .int a1)]) (st1 := [.int 93, .int a1]) rfl ?_
        obtain ⟨h22, h23⟩ := h20
        by_cases c21 : a1.toInt = 93
        · refine am_wb2 rfl false (zn_ne (zq_a _) (by decide) (zr_t _) ⟨by decide, by decide⟩ c21) rfl ?_
          have h24 := h22 c21
          refine am_wh 2 (pc1 := 41) (lv1 := [(0, .ref 5), (1, .int a1)]) (st1 := [.int (s.1 4)]) rfl ?_
          obtain ⟨h26, h27⟩ := h24
          by_cases c25 : 0 < (s.1 4).toInt
          · refine am_wb1 rfl false (zn_le (zq_a _) (by decide) (zr_t _) ⟨by decide, by decide⟩ c25) rfl ?_
            have h28 := h26 c25
            refine am_wh 5 (pc1 := 51) (lv1 := [(0, .ref 5), (1, .int a1)]) (st1 := [.int ((s.1 4) - 1), .ref 5]) rfl ?_
            refine am_w0 (z := (54, [(0, .ref 5), (1, .int a1)], [], zH (zf s 4 ((s.1 4) - 1)))) rfl rfl (zp_4 ) ?_
            refine am_wr rfl rfl rfl ?_
            exact ⟨_, rfl, rfl, h28⟩
          · refine am_wb1 rfl true (zt_le (zq_a _) (by decide) (zr_t _) ⟨by decide, by decide⟩ c25) rfl ?_
            have h29 := h27 c25
            refine am_wr rfl rfl rfl ?_
            exact ⟨_, rfl, rfl, h29⟩
        · refine am_wb2 rfl true (zt_ne (zq_a _) (by decide) (zr_t _) ⟨by decide, by decide⟩ c21) rfl ?_
          have h30 := h23 c21
          refine am_wr rfl rfl rfl ?_
          exact ⟨_, rfl, rfl, h30⟩
set_option maxRecDepth 100000 in
theorem vc_106_0 (xs : Option (List Int32)) (d : Nat) (s : zS) (a1 : Int32) (a2 : Int32) (a3 : Int32) (Q : zS → Prop) (h : ((s.1 2).toInt < 272 → (zX (s.2 4) (s.1 2).toInt ∧ zX (s.2 5) (s.1 2).toInt ∧ zX (s.2 6) (s.1 2).toInt ∧ Q (zf (za (za (za s 4 (zu (s.2 4) (s.1 2).toInt a1)) 5 (zu (s.2 5) (s.1 2).toInt a2)) 6 (zu (s.2 6) (s.1 2).toInt a3)) 2 ((s.1 2) + 1)))) ∧ (¬ (s.1 2).toInt < 272 → (Q s))) : zWv xs d 106 0 [(0, .ref 5), (1, .int a1), (2, .int a2), (3, .int a3)] s Q := by
  unfold zWv
  refine am_wh 3 (pc1 := 7) (lv1 := [(0, .ref 5), (1, .int a1), (2, .int a2), (3, .int a3)]) (st1 := [.int 272, .int (s.1 2)]) rfl ?_
  obtain ⟨h2, h3⟩ := h
  by_cases c1 : (s.1 2).toInt < 272
  · refine am_wb2 rfl false (zn_ge (zq_a _) (by decide) (zr_t _) ⟨by decide, by decide⟩ c1) rfl ?_
    have h4 := h2 c1
    refine am_wh 5 (pc1 := 19) (lv1 := [(0, .ref 5), (1, .int a1), (2, .int a2), (3, .int a3)]) (st1 := [.int a1, .int (s.1 2), .ref 6]) rfl ?_
    obtain ⟨o5, h6⟩ := h4
    refine zw_si (l := (s.2 4)) (i := (s.1 2).toInt) rfl rfl (zq_a _) o5 (zh_4 _ _) ?_
    refine am_wh 5 (pc1 := 29) (lv1 := [(0, .ref 5), (1, .int a1), (2, .int a2), (3, .int a3)]) (st1 := [.int a2, .int (s.1 2), .ref 7]) rfl ?_
    obtain ⟨o7, h8⟩ := h6
    refine zw_si (l := (s.2 5)) (i := (s.1 2).toInt) rfl rfl (zq_a _) o7 (zh_5 _ _) ?_
    refine am_wh 5 (pc1 := 39) (lv1 := [(0, .ref 5), (1, .int a1), (2, .int a2), (3, .int a3)]) (st1 := [.int a3, .int (s.1 2), .ref 8]) rfl ?_
    obtain ⟨o9, h10⟩ := h8
    refine zw_si (l := (s.2 6)) (i := (s.1 2).toInt) rfl rfl (zq_a _) o9 (zh_6 _ _) ?_
    refine am_wh 5 (pc1 := 47) (lv1 := [(0, .ref 5), (1, .int a1), (2, .int a2), (3, .int a3)]) (st1 := [.int ((s.1 2) + 1), .ref 5]) rfl ?_
    refine am_w0 (z := (50, [(0, .ref 5), (1, .int a1), (2, .int a2), (3, .int a3)], [], zH (zf (za (za (za s 4 (zu (s.2 4) (s.1 2).toInt a1)) 5 (zu (s.2 5) (s.1 2).toInt a2)) 6 (zu (s.2 6) (s.1 2).toInt a3)) 2 ((s.1 2) + 1)))) rfl rfl (zp_2 ) ?_
    refine am_wr rfl rfl rfl ?_
    exact ⟨_, rfl, rfl, h10⟩
  · refine am_wb2 rfl true (zt_ge (zq_a _) (by decide) (zr_t _) ⟨by decide, by decide⟩ c1) rfl ?_
    have h11 := h3 c1
    refine am_wr rfl rfl rfl ?_
    exact ⟨_, rfl, rfl, h11⟩
set_option maxRecDepth 100000 in
theorem vc_107_0 (xs : Option (List Int32)) (d : Nat) (s : zS) (a1 : Int32) (Q : Int32 → zS → Prop) (h : zWi xs d 107 6 [(0, .ref 5), (2, .int 0), (3, .int (a1 + 1))] s Q) : zWi xs d 107 0 [(0, .ref 5), (1, .int a1)] s Q := by
  unfold zWi
  refine am_wh 6 (pc1 := 6) (lv1 := [(3, .int (a1 + 1)), (2, .int 0), (0, .ref 5), (1, .int a1)]) (st1 := []) rfl ?_
  exact am_wm h ⟨rfl, rfl, rfl, trivial⟩
set_option maxRecDepth 100000 in
theorem vc_107_6 (xs : Option (List Int32)) (d : Nat) (s : zS) (a2 : Int32) (a3 : Int32) (Q : Int32 → zS → Prop) (h : (a3.toInt < (s.1 2).toInt → (zX (s.2 4) a3.toInt ∧ ((zg (s.2 4) a3.toInt).toInt = 40 → (zR (a2.toInt + 1) ∧ ((a2.toInt + 1) < 0 → (Q 0 s)) ∧ (¬ (a2.toInt + 1) < 0 → (((a2.toInt + 1) = 0 → (((zg (s.2 4) a3.toInt).toInt = 20 → (Q 1 s)) ∧ (¬ (zg (s.2 4) a3.toInt).toInt = 20 → (zWi xs d 107 6 [(0, .ref 5), (2, .int (a2 + 1)), (3, .int (a3 + 1))] s Q)))) ∧ (¬ (a2.toInt + 1) = 0 → (zWi xs d 107 6 [(0, .ref 5), (2, .int (a2 + 1)), (3, .int (a3 + 1))] s Q)))))) ∧ (¬ (zg (s.2 4) a3.toInt).toInt = 40 → (((zg (s.2 4) a3.toInt).toInt = 91 → (zR (a2.toInt + 1) ∧ ((a2.toInt + 1) < 0 → (Q 0 s)) ∧ (¬ (a2.toInt + 1) < 0 → (((a2.toInt + 1) = 0 → (((zg (s.2 4) a3.toInt).toInt = 20 → (Q 1 s)) ∧ (¬ (zg (s.2 4) a3.toInt).toInt = 20 → (zWi xs d 107 6 [(0, .ref 5), (2, .int (a2 + 1)), (3, .int (a3 + 1))] s Q)))) ∧ (¬ (a2.toInt + 1) = 0 → (zWi xs d 107 6 [(0, .ref 5), (2, .int (a2 + 1)), (3, .int (a3 + 1))] s Q)))))) ∧ (¬ (zg (s.2 4) a3.toInt).toInt = 91 → (((zg (s.2 4) a3.toInt).toInt = 41 → (zR (a2.toInt + (-1)) ∧ ((a2.toInt + (-1)) < 0 → (Q 0 s)) ∧ (¬ (a2.toInt + (-1)) < 0 → (((a2.toInt + (-1)) = 0 → (((zg (s.2 4) a3.toInt).toInt = 20 → (Q 1 s)) ∧ (¬ (zg (s.2 4) a3.toInt).toInt = 20 → (zWi xs d 107 6 [(0, .ref 5), (2, .int (a2 + (-1))), (3, .int (a3 + 1))] s Q)))) ∧ (¬ (a2.toInt + (-1)) = 0 → (zWi xs d 107 6 [(0, .ref 5), (2, .int (a2 + (-1))), (3, .int (a3 + 1))] s Q)))))) ∧ (¬ (zg (s.2 4) a3.toInt).toInt = 41 → (((zg (s.2 4) a3.toInt).toInt = 93 → (zR (a2.toInt + (-1)) ∧ ((a2.toInt + (-1)) < 0 → (Q 0 s)) ∧ (¬ (a2.toInt + (-1)) < 0 → (((a2.toInt + (-1)) = 0 → (((zg (s.2 4) a3.toInt).toInt = 20 → (Q 1 s)) ∧ (¬ (zg (s.2 4) a3.toInt).toInt = 20 → (zWi xs d 107 6 [(0, .ref 5), (2, .int (a2 + (-1))), (3, .int (a3 + 1))] s Q)))) ∧ (¬ (a2.toInt + (-1)) = 0 → (zWi xs d 107 6 [(0, .ref 5), (2, .int (a2 + (-1))), (3, .int (a3 + 1))] s Q)))))) ∧ (¬ (zg (s.2 4) a3.toInt).toInt = 93 → ((a2.toInt < 0 → (Q 0 s)) ∧ (¬ a2.toInt < 0 → ((a2.toInt = 0 → (((zg (s.2 4) a3.toInt).toInt = 20 → (Q 1 s)) ∧ (¬ (zg (s.2 4) a3.toInt).toInt = 20 → (zWi xs d 107 6 [(0, .ref 5), (2, .int a2), (3, .int (a3 + 1))] s Q)))) ∧ (¬ a2.toInt = 0 → (zWi xs d 107 6 [(0, .ref 5), (2, .int a2), (3, .int (a3 + 1))] s Q)))))))))))))) ∧ (¬ a3.toInt < (s.1 2).toInt → (Q 0 s))) : zWi xs d 107 6 [(0, .ref 5), (2, .int a2), (3, .int a3)] s Q := by
  unfold zWi
  refine am_wh 3 (pc1 := 11) (lv1 := [(0, .ref 5), (2, .int a2), (3, .int a3)]) (st1 := [.int (s.1 2), .int a3]) rfl ?_
  obtain ⟨h2, h3⟩ := h
  by_cases c1 : a3.toInt < (s.1 2).toInt
  · refine am_wb2 rfl false (zn_ge (zq_a _) (zq_a _) (zr_t _) (zr_t _) c1) rfl ?_
    have h4 := h2 c1
    refine am_wh 3 (pc1 := 19) (lv1 := [(0, .ref 5), (2, .int a2), (3, .int a3)]) (st1 := [.int a3, .ref 6]) rfl ?_
    obtain ⟨o5, h6⟩ := h4
    refine zw_li (l := (s.2 4)) (i := a3.toInt) rfl rfl (zq_a _) o5 ?_
    refine am_wh 3 (pc1 := 26) (lv1 := [(4, .int (zg (s.2 4) a3.toInt)), (0, .ref 5), (2, .int a2), (3, .int a3)]) (st1 := [.int 40, .int (zg (s.2 4) a3.toInt)]) rfl ?_
    obtain ⟨h8, h9⟩ := h6
    by_cases c7 : (zg (s.2 4) a3.toInt).toInt = 40
    · refine am_wb2 rfl true (zt_eq (zq_a _) (by decide) (zr_t _) ⟨by decide, by decide⟩ c7) rfl ?_
      have h10 := h8 c7
      refine am_wh 3 (pc1 := 60) (lv1 := [(2, .int (a2 + 1)), (4, .int (zg (s.2 4) a3.toInt)), (0, .ref 5), (3, .int a3)]) (st1 := [.int (a2 + 1)]) rfl ?_
      obtain ⟨o11, h12⟩ := h10
      obtain ⟨h14, h15⟩ := h12
      by_cases c13 : (a2.toInt + 1) < 0
      · refine am_wb1 rfl false (zn_ge (zq_add (zq_a _) (by decide)) (by decide) o11 ⟨by decide, by decide⟩ c13) rfl ?_
        have h16 := h14 c13
        refine am_wh 1 (pc1 := 64) (lv1 := [(2, .int (a2 + 1)), (4, .int (zg (s.2 4) a3.toInt)), (0, .ref 5), (3, .int a3)]) (st1 := [.int 0]) rfl ?_
        refine am_wr rfl rfl rfl ?_
        exact ⟨_, _, rfl, rfl, h16⟩
      · refine am_wb1 rfl true (zt_ge (zq_add (zq_a _) (by decide)) (by decide) o11 ⟨by decide, by decide⟩ c13) rfl ?_
        have h17 := h15 c13
        refine am_wh 1 (pc1 := 66) (lv1 := [(2, .int (a2 + 1)), (4, .int (zg (s.2 4) a3.toInt)), (0, .ref 5), (3, .int a3)]) (st1 := [.int (a2 + 1)]) rfl ?_
        obtain ⟨h19, h20⟩ := h17
        by_cases c18 : (a2.toInt + 1) = 0
        · refine am_wb1 rfl false (zn_ne (zq_add (zq_a _) (by decide)) (by decide) o11 ⟨by decide, by decide⟩ c18) rfl ?_
          have h21 := h19 c18
          refine am_wh 2 (pc1 := 73) (lv1 := [(2, .int (a2 + 1)), (4, .int (zg (s.2 4) a3.toInt)), (0, .ref 5), (3, .int a3)]) (st1 := [.int 20, .int (zg (s.2 4) a3.toInt)]) rfl ?_
          obtain ⟨h23, h24⟩ := h21
          by_cases c22 : (zg (s.2 4) a3.toInt).toInt = 20
          · refine am_wb2 rfl false (zn_ne (zq_a _) (by decide) (zr_t _) ⟨by decide, by decide⟩ c22) rfl ?_
            have h25 := h23 c22
            refine am_wh 1 (pc1 := 77) (lv1 := [(2, .int (a2 + 1)), (4, .int (zg (s.2 4) a3.toInt)), (0, .ref 5), (3, .int a3)]) (st1 := [.int 1]) rfl ?_
            refine am_wr rfl rfl rfl ?_
            exact ⟨_, _, rfl, rfl, h25⟩
          · refine am_wb2 rfl true (zt_ne (zq_a _) (by decide) (zr_t _) ⟨by decide, by decide⟩ c22) rfl ?_
            have h26 := h24 c22
            refine am_wh 2 (pc1 := 6) (lv1 := [(3, .int (a3 + 1)), (2, .int (a2 + 1)), (4, .int (zg (s.2 4) a3.toInt)), (0, .ref 5)]) (st1 := []) rfl ?_
            exact am_wm h26 ⟨rfl, rfl, rfl, trivial⟩
        · refine am_wb1 rfl true (zt_ne (zq_add (zq_a _) (by decide)) (by decide) o11 ⟨by decide, by decide⟩ c18) rfl ?_
          have h27 := h20 c18
          refine am_wh 2 (pc1 := 6) (lv1 := [(3, .int (a3 + 1)), (2, .int (a2 + 1)), (4, .int (zg (s.2 4) a3.toInt)), (0, .ref 5)]) (st1 := []) rfl ?_
          exact am_wm h27 ⟨rfl, rfl, rfl, trivial⟩
    · refine am_wb2 rfl false (zn_eq (zq_a _) (by decide) (zr_t _) ⟨by decide, by decide⟩ c7) rfl ?_
      have h28 := h9 c7
      refine am_wh 2 (pc1 := 33) (lv1 := [(4, .int (zg (s.2 4) a3.toInt)), (0, .ref 5), (2, .int a2), (3, .int a3)]) (st1 := [.int 91, .int (zg (s.2 4) a3.toInt)]) rfl ?_
      obtain ⟨h30, h31⟩ := h28
      by_cases c29 : (zg (s.2 4) a3.toInt).toInt = 91
      · refine am_wb2 rfl false (zn_ne (zq_a _) (by decide) (zr_t _) ⟨by decide, by decide⟩ c29) rfl ?_
        have h32 := h30 c29
        refine am_wh 3 (pc1 := 60) (lv1 := [(2, .int (a2 + 1)), (4, .int (zg (s.2 4) a3.toInt)), (0, .ref 5), (3, .int a3)]) (st1 := [.int (a2 + 1)]) rfl ?_
        obtain ⟨o33, h34⟩ := h32
        obtain ⟨h36, h37⟩ := h34
        by_cases c35 : (a2.toInt + 1) < 0
        · refine am_wb1 rfl false (zn_ge (zq_add (zq_a _) (by decide)) (by decide) o33 ⟨by decide, by decide⟩ c35) rfl ?_
          have h38 := h36 c35
          refine am_wh 1 (pc1 := 64) (lv1 := [(2, .int (a2 + 1)), (4, .int (zg (s.2 4) a3.toInt)), (0, .ref 5), (3, .int a3)]) (st1 := [.int 0]) rfl ?_
          refine am_wr rfl rfl rfl ?_
          exact ⟨_, _, rfl, rfl, h38⟩
        · refine am_wb1 rfl true (zt_ge (zq_add (zq_a _) (by decide)) (by decide) o33 ⟨by decide, by decide⟩ c35) rfl ?_
          have h39 := h37 c35
          refine am_wh 1 (pc1 := 66) (lv1 := [(2, .int (a2 + 1)), (4, .int (zg (s.2 4) a3.toInt)), (0, .ref 5), (3, .int a3)]) (st1 := [.int (a2 + 1)]) rfl ?_
          obtain ⟨h41, h42⟩ := h39
          by_cases c40 : (a2.toInt + 1) = 0
          · refine am_wb1 rfl false (zn_ne (zq_add (zq_a _) (by decide)) (by decide) o33 ⟨by decide, by decide⟩ c40) rfl ?_
            have h43 := h41 c40
            refine am_wh 2 (pc1 := 73) (lv1 := [(2, .int (a2 + 1)), (4, .int (zg (s.2 4) a3.toInt)), (0, .ref 5), (3, .int a3)]) (st1 := [.int 20, .int (zg (s.2 4) a3.toInt)]) rfl ?_
            obtain ⟨h45, h46⟩ := h43
            by_cases c44 : (zg (s.2 4) a3.toInt).toInt = 20
            · refine am_wb2 rfl false (zn_ne (zq_a _) (by decide) (zr_t _) ⟨by decide, by decide⟩ c44) rfl ?_
              have h47 := h45 c44
              refine am_wh 1 (pc1 := 77) (lv1 := [(2, .int (a2 + 1)), (4, .int (zg (s.2 4) a3.toInt)), (0, .ref 5), (3, .int a3)]) (st1 := [.int 1]) rfl ?_
              refine am_wr rfl rfl rfl ?_
              exact ⟨_, _, rfl, rfl, h47⟩
            · refine am_wb2 rfl true (zt_ne (zq_a _) (by decide) (zr_t _) ⟨by decide, by decide⟩ c44) rfl ?_
              have h48 := h46 c44
              refine am_wh 2 (pc1 := 6) (lv1 := [(3, .int (a3 + 1)), (2, .int (a2 + 1)), (4, .int (zg (s.2 4) a3.toInt)), (0, .ref 5)]) (st1 := []) rfl ?_
              exact am_wm h48 ⟨rfl, rfl, rfl, trivial⟩
          · refine am_wb1 rfl true (zt_ne (zq_add (zq_a _) (by decide)) (by decide) o33 ⟨by decide, by decide⟩ c40) rfl ?_
            have h49 := h42 c40
            refine am_wh 2 (pc1 := 6) (lv1 := [(3, .int (a3 + 1)), (2, .int (a2 + 1)), (4, .int (zg (s.2 4) a3.toInt)), (0, .ref 5)]) (st1 := []) rfl ?_
            exact am_wm h49 ⟨rfl, rfl, rfl, trivial⟩
      · refine am_wb2 rfl true (zt_ne (zq_a _) (by decide) (zr_t _) ⟨by decide, by decide⟩ c29) rfl ?_
        have h50 := h31 c29
        refine am_wh 2 (pc1 := 46) (lv1 := [(4, .int (zg (s.2 4) a3.toInt)), (0, .ref 5), (2, .int a2), (3, .int a3)]) (st1 := [.int 41, .int (zg (s.2 4) a3.toInt)]) rfl ?_
        obtain ⟨h52, h53⟩ := h50
        by_cases c51 : (zg (s.2 4) a3.toInt).toInt = 41
        · refine am_wb2 rfl true (zt_eq (zq_a _) (by decide) (zr_t _) ⟨by decide, by decide⟩ c51) rfl ?_
          have h54 := h52 c51
          refine am_wh 2 (pc1 := 60) (lv1 := [(2, .int (a2 + (-1))), (4, .int (zg (s.2 4) a3.toInt)), (0, .ref 5), (3, .int a3)]) (st1 := [.int (a2 + (-1))]) rfl ?_
          obtain ⟨o55, h56⟩ := h54
          obtain ⟨h58, h59⟩ := h56
          by_cases c57 : (a2.toInt + (-1)) < 0
          · refine am_wb1 rfl false (zn_ge (zq_add (zq_a _) (by decide)) (by decide) o55 ⟨by decide, by decide⟩ c57) rfl ?_
            have h60 := h58 c57
            refine am_wh 1 (pc1 := 64) (lv1 := [(2, .int (a2 + (-1))), (4, .int (zg (s.2 4) a3.toInt)), (0, .ref 5), (3, .int a3)]) (st1 := [.int 0]) rfl ?_
            refine am_wr rfl rfl rfl ?_
            exact ⟨_, _, rfl, rfl, h60⟩
          · refine am_wb1 rfl true (zt_ge (zq_add (zq_a _) (by decide)) (by decide) o55 ⟨by decide, by decide⟩ c57) rfl ?_
            have h61 := h59 c57
            refine am_wh 1 (pc1 := 66) (lv1 := [(2, .int (a2 + (-1))), (4, .int (zg (s.2 4) a3.toInt)), (0, .ref 5), (3, .int a3)]) (st1 := [.int (a2 + (-1))]) rfl ?_
            obtain ⟨h63, h64⟩ := h61
            by_cases c62 : (a2.toInt + (-1)) = 0
            · refine am_wb1 rfl false (zn_ne (zq_add (zq_a _) (by decide)) (by decide) o55 ⟨by decide, by decide⟩ c62) rfl ?_
              have h65 := h63 c62
              refine am_wh 2 (pc1 := 73) (lv1 := [(2, .int (a2 + (-1))), (4, .int (zg (s.2 4) a3.toInt)), (0, .ref 5), (3, .int a3)]) (st1 := [.int 20, .int (zg (s.2 4) a3.toInt)]) rfl ?_
              obtain ⟨h67, h68⟩ := h65
              by_cases c66 : (zg (s.2 4) a3.toInt).toInt = 20
              · refine am_wb2 rfl false (zn_ne (zq_a _) (by decide) (zr_t _) ⟨by decide, by decide⟩ c66) rfl ?_
                have h69 := h67 c66
                refine am_wh 1 (pc1 := 77) (lv1 := [(2, .int (a2 + (-1))), (4, .int (zg (s.2 4) a3.toInt)), (0, .ref 5), (3, .int a3)]) (st1 := [.int 1]) rfl ?_
                refine am_wr rfl rfl rfl ?_
                exact ⟨_, _, rfl, rfl, h69⟩
              · refine am_wb2 rfl true (zt_ne (zq_a _) (by decide) (zr_t _) ⟨by decide, by decide⟩ c66) rfl ?_
                have h70 := h68 c66
                refine am_wh 2 (pc1 := 6) (lv1 := [(3, .int (a3 + 1)), (2, .int (a2 + (-1))), (4, .int (zg (s.2 4) a3.toInt)), (0, .ref 5)]) (st1 := []) rfl ?_
                exact am_wm h70 ⟨rfl, rfl, rfl, trivial⟩
            · refine am_wb1 rfl true (zt_ne (zq_add (zq_a _) (by decide)) (by decide) o55 ⟨by decide, by decide⟩ c62) rfl ?_
              have h71 := h64 c62
              refine am_wh 2 (pc1 := 6) (lv1 := [(3, .int (a3 + 1)), (2, .int (a2 + (-1))), (4, .int (zg (s.2 4) a3.toInt)), (0, .ref 5)]) (st1 := []) rfl ?_
              exact am_wm h71 ⟨rfl, rfl, rfl, trivial⟩
        · refine am_wb2 rfl false (zn_eq (zq_a _) (by decide) (zr_t _) ⟨by decide, by decide⟩ c51) rfl ?_
          have h72 := h53 c51
          refine am_wh 2 (pc1 := 53) (lv1 := [(4, .int (zg (s.2 4) a3.toInt)), (0, .ref 5), (2, .int a2), (3, .int a3)]) (st1 := [.int 93, .int (zg (s.2 4) a3.toInt)]) rfl ?_
          obtain ⟨h74, h75⟩ := h72
          by_cases c73 : (zg (s.2 4) a3.toInt).toInt = 93
          · refine am_wb2 rfl false (zn_ne (zq_a _) (by decide) (zr_t _) ⟨by decide, by decide⟩ c73) rfl ?_
            have h76 := h74 c73
            refine am_wh 2 (pc1 := 60) (lv1 := [(2, .int (a2 + (-1))), (4, .int (zg (s.2 4) a3.toInt)), (0, .ref 5), (3, .int a3)]) (st1 := [.int (a2 + (-1))]) rfl ?_
            obtain ⟨o77, h78⟩ := h76
            obtain ⟨h80, h81⟩ := h78
            by_cases c79 : (a2.toInt + (-1)) < 0
            · refine am_wb1 rfl false (zn_ge (zq_add (zq_a _) (by decide)) (by decide) o77 ⟨by decide, by decide⟩ c79) rfl ?_
              have h82 := h80 c79
              refine am_wh 1 (pc1 := 64) (lv1 := [(2, .int (a2 + (-1))), (4, .int (zg (s.2 4) a3.toInt)), (0, .ref 5), (3, .int a3)]) (st1 := [.int 0]) rfl ?_
              refine am_wr rfl rfl rfl ?_
              exact ⟨_, _, rfl, rfl, h82⟩
            · refine am_wb1 rfl true (zt_ge (zq_add (zq_a _) (by decide)) (by decide) o77 ⟨by decide, by decide⟩ c79) rfl ?_
              have h83 := h81 c79
              refine am_wh 1 (pc1 := 66) (lv1 := [(2, .int (a2 + (-1))), (4, .int (zg (s.2 4) a3.toInt)), (0, .ref 5), (3, .int a3)]) (st1 := [.int (a2 + (-1))]) rfl ?_
              obtain ⟨h85, h86⟩ := h83
              by_cases c84 : (a2.toInt + (-1)) = 0
              · refine am_wb1 rfl false (zn_ne (zq_add (zq_a _) (by decide)) (by decide) o77 ⟨by decide, by decide⟩ c84) rfl ?_
                have h87 := h85 c84
                refine am_wh 2 (pc1 := 73) (lv1 := [(2, .int (a2 + (-1))), (4, .int (zg (s.2 4) a3.toInt)), (0, .ref 5), (3, .int a3)]) (st1 := [.int 20, .int (zg (s.2 4) a3.toInt)]) rfl ?_
                obtain ⟨h89, h90⟩ := h87
                by_cases c88 : (zg (s.2 4) a3.toInt).toInt = 20
                · refine am_wb2 rfl false (zn_ne (zq_a _) (by decide) (zr_t _) ⟨by decide, by decide⟩ c88) rfl ?_
                  have h91 := h89 c88
                  refine am_wh 1 (pc1 := 77) (lv1 := [(2, .int (a2 + (-1))), (4, .int (zg (s.2 4) a3.toInt)), (0, .ref 5), (3, .int a3)]) (st1 := [.int 1]) rfl ?_
                  refine am_wr rfl rfl rfl ?_
                  exact ⟨_, _, rfl, rfl, h91⟩
                · refine am_wb2 rfl true (zt_ne (zq_a _) (by decide) (zr_t _) ⟨by decide, by decide⟩ c88) rfl ?_
                  have h92 := h90 c88
                  refine am_wh 2 (pc1 := 6) (lv1 := [(3, .int (a3 + 1)), (2, .int (a2 + (-1))), (4, .int (zg (s.2 4) a3.toInt)), (0, .ref 5)]) (st1 := []) rfl ?_
                  exact am_wm h92 ⟨rfl, rfl, rfl, trivial⟩
              · refine am_wb1 rfl true (zt_ne (zq_add (zq_a _) (by decide)) (by decide) o77 ⟨by decide, by decide⟩ c84) rfl ?_
                have h93 := h86 c84
                refine am_wh 2 (pc1 := 6) (lv1 := [(3, .int (a3 + 1)), (2, .int (a2 + (-1))), (4, .int (zg (s.2 4) a3.toInt)), (0, .ref 5)]) (st1 := []) rfl ?_
                exact am_wm h93 ⟨rfl, rfl, rfl, trivial⟩
          · refine am_wb2 rfl true (zt_ne (zq_a _) (by decide) (zr_t _) ⟨by decide, by decide⟩ c73) rfl ?_
            have h94 := h75 c73
            refine am_wh 1 (pc1 := 60) (lv1 := [(4, .int (zg (s.2 4) a3.toInt)), (0, .ref 5), (2, .int a2), (3, .int a3)]) (st1 := [.int a2]) rfl ?_
            obtain ⟨h96, h97⟩ := h94
            by_cases c95 : a2.toInt < 0
            · refine am_wb1 rfl false (zn_ge (zq_a _) (by decide) (zr_t _) ⟨by decide, by decide⟩ c95) rfl ?_
              have h98 := h96 c95
              refine am_wh 1 (pc1 := 64) (lv1 := [(4, .int (zg (s.2 4) a3.toInt)), (0, .ref 5), (2, .int a2), (3, .int a3)]) (st1 := [.int 0]) rfl ?_
              refine am_wr rfl rfl rfl ?_
              exact ⟨_, _, rfl, rfl, h98⟩
            · refine am_wb1 rfl true (zt_ge (zq_a _) (by decide) (zr_t _) ⟨by decide, by decide⟩ c95) rfl ?_
              have h99 := h97 c95
              refine am_wh 1 (pc1 := 66) (lv1 := [(4, .int (zg (s.2 4) a3.toInt)), (0, .ref 5), (2, .int a2), (3, .int a3)]) (st1 := [.int a2]) rfl ?_
              obtain ⟨h101, h102⟩ := h99
              by_cases c100 : a2.toInt = 0
              · refine am_wb1 rfl false (zn_ne (zq_a _) (by decide) (zr_t _) ⟨by decide, by decide⟩ c100) rfl ?_
                have h103 := h101 c100
                refine am_wh 2 (pc1 := 73) (lv1 := [(4, .int (zg (s.2 4) a3.toInt)), (0, .ref 5), (2, .int a2), (3, .int a3)]) (st1 := [.int 20, .int (zg (s.2 4) a3.toInt)]) rfl ?_
                obtain ⟨h105, h106⟩ := h103
                by_cases c104 : (zg (s.2 4) a3.toInt).toInt = 20
                · refine am_wb2 rfl false (zn_ne (zq_a _) (by decide) (zr_t _) ⟨by decide, by decide⟩ c104) rfl ?_
                  have h107 := h105 c104
                  refine am_wh 1 (pc1 := 77) (lv1 := [(4, .int (zg (s.2 4) a3.toInt)), (0, .ref 5), (2, .int a2), (3, .int a3)]) (st1 := [.int 1]) rfl ?_
                  refine am_wr rfl rfl rfl ?_
                  exact ⟨_, _, rfl, rfl, h107⟩
                · refine am_wb2 rfl true (zt_ne (zq_a _) (by decide) (zr_t _) ⟨by decide, by decide⟩ c104) rfl ?_
                  have h108 := h106 c104
                  refine am_wh 2 (pc1 := 6) (lv1 := [(3, .int (a3 + 1)), (4, .int (zg (s.2 4) a3.toInt)), (0, .ref 5), (2, .int a2)]) (st1 := []) rfl ?_
                  exact am_wm h108 ⟨rfl, rfl, rfl, trivial⟩
              · refine am_wb1 rfl true (zt_ne (zq_a _) (by decide) (zr_t _) ⟨by decide, by decide⟩ c100) rfl ?_
                have h109 := h102 c100
                refine am_wh 2 (pc1 := 6) (lv1 := [(3, .int (a3 + 1)), (4, .int (zg (s.2 4) a3.toInt)), (0, .ref 5), (2, .int a2)]) (st1 := []) rfl ?_
                exact am_wm h109 ⟨rfl, rfl, rfl, trivial⟩
  · refine am_wb2 rfl true (zt_ge (zq_a _) (zq_a _) (zr_t _) (zr_t _) c1) rfl ?_
    have h110 := h3 c1
    refine am_wh 1 (pc1 := 85) (lv1 := [(0, .ref 5), (2, .int a2), (3, .int a3)]) (st1 := [.int 0]) rfl ?_
    refine am_wr rfl rfl rfl ?_
    exact ⟨_, _, rfl, rfl, h110⟩
end
