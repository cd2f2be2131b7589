section
-- ===== PART A: goes FIRST, ahead of the names: the tables' words, and 'selects' of the private methods out of them =====
/-- a private method of a class that the tables say can be made, by its rows of tables_1 -/
def lw_okq (q : MethodName × Nat) : Prop := (q.1.cls ≠ "java/lang/invoke/MethodHandle" ∧ q.1.cls ≠ "java/lang/invoke/VarHandle") ∧ Cond.instantiable q.1.cls q.2 ∈ tables_1 ∧ Cond.privateMethod q.1 ∈ tables_1 ∧ Cond.instanceMethod q.1 ∈ tables_1
theorem lw_p0 : lw_okq (⟨"BindingServer", "refresh", "()V"⟩, 9) := ⟨⟨by decide +kernel, by decide +kernel⟩, List.mem_of_getElem? (i := 15) (by decide +kernel), List.mem_of_getElem? (i := 326) (by decide +kernel), List.mem_of_getElem? (i := 327) (by decide +kernel)⟩
theorem lw_p1 : lw_okq (⟨"BindingServer$Tokens", "endLine", "(Z)V"⟩, 8) := ⟨⟨by decide +kernel, by decide +kernel⟩, List.mem_of_getElem? (i := 41) (by decide +kernel), List.mem_of_getElem? (i := 335) (by decide +kernel), List.mem_of_getElem? (i := 336) (by decide +kernel)⟩
theorem lw_p2 : lw_okq (⟨"BindingServer$Tokens", "add", "(III)V"⟩, 8) := ⟨⟨by decide +kernel, by decide +kernel⟩, List.mem_of_getElem? (i := 41) (by decide +kernel), List.mem_of_getElem? (i := 343) (by decide +kernel), List.mem_of_getElem? (i := 344) (by decide +kernel)⟩
theorem lw_p3 : lw_okq (⟨"BindingServer$Tokens", "beginLine", "(II)V"⟩, 8) := ⟨⟨by decide +kernel, by decide +kernel⟩, List.mem_of_getElem? (i := 41) (by decide +kernel), List.mem_of_getElem? (i := 351) (by decide +kernel), List.mem_of_getElem? (i := 352) (by decide +kernel)⟩
theorem lw_p4 : lw_okq (⟨"BindingServer$Tokens", "lastIndent", "()I"⟩, 8) := ⟨⟨by decide +kernel, by decide +kernel⟩, List.mem_of_getElem? (i := 41) (by decide +kernel), List.mem_of_getElem? (i := 355) (by decide +kernel), List.mem_of_getElem? (i := 356) (by decide +kernel)⟩
theorem lw_p5 : lw_okq (⟨"BindingServer$Tokens", "readOne", "(I)I"⟩, 8) := ⟨⟨by decide +kernel, by decide +kernel⟩, List.mem_of_getElem? (i := 41) (by decide +kernel), List.mem_of_getElem? (i := 359) (by decide +kernel), List.mem_of_getElem? (i := 360) (by decide +kernel)⟩
theorem lw_p6 : lw_okq (⟨"BindingServer$Tokens", "countOpen", "(I)V"⟩, 8) := ⟨⟨by decide +kernel, by decide +kernel⟩, List.mem_of_getElem? (i := 41) (by decide +kernel), List.mem_of_getElem? (i := 395) (by decide +kernel), List.mem_of_getElem? (i := 396) (by decide +kernel)⟩
theorem lw_p7 : lw_okq (⟨"BindingServer$Tokens", "endText", "()V"⟩, 8) := ⟨⟨by decide +kernel, by decide +kernel⟩, List.mem_of_getElem? (i := 41) (by decide +kernel), List.mem_of_getElem? (i := 402) (by decide +kernel), List.mem_of_getElem? (i := 403) (by decide +kernel)⟩
theorem lw_p8 : lw_okq (⟨"BindingServer$Parser", "begin", "()V"⟩, 13) := ⟨⟨by decide +kernel, by decide +kernel⟩, List.mem_of_getElem? (i := 162) (by decide +kernel), List.mem_of_getElem? (i := 410) (by decide +kernel), List.mem_of_getElem? (i := 411) (by decide +kernel)⟩
theorem lw_p9 : lw_okq (⟨"BindingServer$Parser", "advance", "()V"⟩, 13) := ⟨⟨by decide +kernel, by decide +kernel⟩, List.mem_of_getElem? (i := 162) (by decide +kernel), List.mem_of_getElem? (i := 422) (by decide +kernel), List.mem_of_getElem? (i := 423) (by decide +kernel)⟩
theorem lw_p10 : lw_okq (⟨"BindingServer$Parser", "statement", "(I)Z"⟩, 13) := ⟨⟨by decide +kernel, by decide +kernel⟩, List.mem_of_getElem? (i := 162) (by decide +kernel), List.mem_of_getElem? (i := 426) (by decide +kernel), List.mem_of_getElem? (i := 427) (by decide +kernel)⟩
theorem lw_p11 : lw_okq (⟨"BindingServer$Parser", "beginsCompound", "()Z"⟩, 13) := ⟨⟨by decide +kernel, by decide +kernel⟩, List.mem_of_getElem? (i := 162) (by decide +kernel), List.mem_of_getElem? (i := 430) (by decide +kernel), List.mem_of_getElem? (i := 431) (by decide +kernel)⟩
theorem lw_p12 : lw_okq (⟨"BindingServer$Parser", "compound", "(I)Z"⟩, 13) := ⟨⟨by decide +kernel, by decide +kernel⟩, List.mem_of_getElem? (i := 162) (by decide +kernel), List.mem_of_getElem? (i := 434) (by decide +kernel), List.mem_of_getElem? (i := 435) (by decide +kernel)⟩
theorem lw_p13 : lw_okq (⟨"BindingServer$Parser", "function", "(I)Z"⟩, 13) := ⟨⟨by decide +kernel, by decide +kernel⟩, List.mem_of_getElem? (i := 162) (by decide +kernel), List.mem_of_getElem? (i := 438) (by decide +kernel), List.mem_of_getElem? (i := 439) (by decide +kernel)⟩
theorem lw_p14 : lw_okq (⟨"BindingServer$Parser", "take", "(I)Z"⟩, 13) := ⟨⟨by decide +kernel, by decide +kernel⟩, List.mem_of_getElem? (i := 162) (by decide +kernel), List.mem_of_getElem? (i := 442) (by decide +kernel), List.mem_of_getElem? (i := 443) (by decide +kernel)⟩
theorem lw_p15 : lw_okq (⟨"BindingServer$Parser", "refuse", "(I)Z"⟩, 13) := ⟨⟨by decide +kernel, by decide +kernel⟩, List.mem_of_getElem? (i := 162) (by decide +kernel), List.mem_of_getElem? (i := 446) (by decide +kernel), List.mem_of_getElem? (i := 447) (by decide +kernel)⟩
def lw_privs_1 : List (MethodName × Nat) := [(⟨"BindingServer", "refresh", "()V"⟩, 9), (⟨"BindingServer$Tokens", "endLine", "(Z)V"⟩, 8), (⟨"BindingServer$Tokens", "add", "(III)V"⟩, 8), (⟨"BindingServer$Tokens", "beginLine", "(II)V"⟩, 8), (⟨"BindingServer$Tokens", "lastIndent", "()I"⟩, 8), (⟨"BindingServer$Tokens", "readOne", "(I)I"⟩, 8), (⟨"BindingServer$Tokens", "countOpen", "(I)V"⟩, 8), (⟨"BindingServer$Tokens", "endText", "()V"⟩, 8), (⟨"BindingServer$Parser", "begin", "()V"⟩, 13), (⟨"BindingServer$Parser", "advance", "()V"⟩, 13), (⟨"BindingServer$Parser", "statement", "(I)Z"⟩, 13), (⟨"BindingServer$Parser", "beginsCompound", "()Z"⟩, 13), (⟨"BindingServer$Parser", "compound", "(I)Z"⟩, 13), (⟨"BindingServer$Parser", "function", "(I)Z"⟩, 13), (⟨"BindingServer$Parser", "take", "(I)Z"⟩, 13), (⟨"BindingServer$Parser", "refuse", "(I)Z"⟩, 13)]
theorem lw_r1 : ∀ q ∈ lw_privs_1, lw_okq q := List.forall_mem_cons.mpr ⟨lw_p0, List.forall_mem_cons.mpr ⟨lw_p1, List.forall_mem_cons.mpr ⟨lw_p2, List.forall_mem_cons.mpr ⟨lw_p3, List.forall_mem_cons.mpr ⟨lw_p4, List.forall_mem_cons.mpr ⟨lw_p5, List.forall_mem_cons.mpr ⟨lw_p6, List.forall_mem_cons.mpr ⟨lw_p7, List.forall_mem_cons.mpr ⟨lw_p8, List.forall_mem_cons.mpr ⟨lw_p9, List.forall_mem_cons.mpr ⟨lw_p10, List.forall_mem_cons.mpr ⟨lw_p11, List.forall_mem_cons.mpr ⟨lw_p12, List.forall_mem_cons.mpr ⟨lw_p13, List.forall_mem_cons.mpr ⟨lw_p14, List.forall_mem_cons.mpr ⟨lw_p15, fun _ h => absurd h List.not_mem_nil⟩⟩⟩⟩⟩⟩⟩⟩⟩⟩⟩⟩⟩⟩⟩⟩
theorem lw_p16 : lw_okq (⟨"BindingServer$Parser", "takeName", "(I)Z"⟩, 13) := ⟨⟨by decide +kernel, by decide +kernel⟩, List.mem_of_getElem? (i := 162) (by decide +kernel), List.mem_of_getElem? (i := 450) (by decide +kernel), List.mem_of_getElem? (i := 451) (by decide +kernel)⟩
theorem lw_p17 : lw_okq (⟨"BindingServer$Parser", "parameters", "()Z"⟩, 13) := ⟨⟨by decide +kernel, by decide +kernel⟩, List.mem_of_getElem? (i := 162) (by decide +kernel), List.mem_of_getElem? (i := 459) (by decide +kernel), List.mem_of_getElem? (i := 460) (by decide +kernel)⟩
theorem lw_p18 : lw_okq (⟨"BindingServer$Parser", "nameRow", "(I)Z"⟩, 13) := ⟨⟨by decide +kernel, by decide +kernel⟩, List.mem_of_getElem? (i := 162) (by decide +kernel), List.mem_of_getElem? (i := 463) (by decide +kernel), List.mem_of_getElem? (i := 464) (by decide +kernel)⟩
theorem lw_p19 : lw_okq (⟨"BindingServer$Parser", "body", "(I)Z"⟩, 13) := ⟨⟨by decide +kernel, by decide +kernel⟩, List.mem_of_getElem? (i := 162) (by decide +kernel), List.mem_of_getElem? (i := 467) (by decide +kernel), List.mem_of_getElem? (i := 468) (by decide +kernel)⟩
theorem lw_p20 : lw_okq (⟨"BindingServer$Parser", "takeDeeper", "(II)Z"⟩, 13) := ⟨⟨by decide +kernel, by decide +kernel⟩, List.mem_of_getElem? (i := 162) (by decide +kernel), List.mem_of_getElem? (i := 471) (by decide +kernel), List.mem_of_getElem? (i := 472) (by decide +kernel)⟩
theorem lw_p21 : lw_okq (⟨"BindingServer$Parser", "simple", "(I)Z"⟩, 13) := ⟨⟨by decide +kernel, by decide +kernel⟩, List.mem_of_getElem? (i := 162) (by decide +kernel), List.mem_of_getElem? (i := 475) (by decide +kernel), List.mem_of_getElem? (i := 476) (by decide +kernel)⟩
theorem lw_p22 : lw_okq (⟨"BindingServer$Parser", "noteReturn", "()V"⟩, 13) := ⟨⟨by decide +kernel, by decide +kernel⟩, List.mem_of_getElem? (i := 162) (by decide +kernel), List.mem_of_getElem? (i := 479) (by decide +kernel), List.mem_of_getElem? (i := 480) (by decide +kernel)⟩
theorem lw_p23 : lw_okq (⟨"BindingServer$Parser", "expression", "(I)Z"⟩, 13) := ⟨⟨by decide +kernel, by decide +kernel⟩, List.mem_of_getElem? (i := 162) (by decide +kernel), List.mem_of_getElem? (i := 487) (by decide +kernel), List.mem_of_getElem? (i := 488) (by decide +kernel)⟩
theorem lw_p24 : lw_okq (⟨"BindingServer$Parser", "lambda", "(I)Z"⟩, 13) := ⟨⟨by decide +kernel, by decide +kernel⟩, List.mem_of_getElem? (i := 162) (by decide +kernel), List.mem_of_getElem? (i := 491) (by decide +kernel), List.mem_of_getElem? (i := 492) (by decide +kernel)⟩
theorem lw_p25 : lw_okq (⟨"BindingServer$Parser", "item", "(I)Z"⟩, 13) := ⟨⟨by decide +kernel, by decide +kernel⟩, List.mem_of_getElem? (i := 162) (by decide +kernel), List.mem_of_getElem? (i := 499) (by decide +kernel), List.mem_of_getElem? (i := 500) (by decide +kernel)⟩
theorem lw_p26 : lw_okq (⟨"BindingServer$Parser", "core", "(I)Z"⟩, 13) := ⟨⟨by decide +kernel, by decide +kernel⟩, List.mem_of_getElem? (i := 162) (by decide +kernel), List.mem_of_getElem? (i := 503) (by decide +kernel), List.mem_of_getElem? (i := 504) (by decide +kernel)⟩
theorem lw_p27 : lw_okq (⟨"BindingServer$Parser", "group", "(I)Z"⟩, 13) := ⟨⟨by decide +kernel, by decide +kernel⟩, List.mem_of_getElem? (i := 162) (by decide +kernel), List.mem_of_getElem? (i := 507) (by decide +kernel), List.mem_of_getElem? (i := 508) (by decide +kernel)⟩
theorem lw_p28 : lw_okq (⟨"BindingServer$Parser", "seesNameBefore", "(I)Z"⟩, 13) := ⟨⟨by decide +kernel, by decide +kernel⟩, List.mem_of_getElem? (i := 162) (by decide +kernel), List.mem_of_getElem? (i := 511) (by decide +kernel), List.mem_of_getElem? (i := 512) (by decide +kernel)⟩
theorem lw_p29 : lw_okq (⟨"BindingServer$Parser", "takeWalrus", "()V"⟩, 13) := ⟨⟨by decide +kernel, by decide +kernel⟩, List.mem_of_getElem? (i := 162) (by decide +kernel), List.mem_of_getElem? (i := 519) (by decide +kernel), List.mem_of_getElem? (i := 520) (by decide +kernel)⟩
theorem lw_p30 : lw_okq (⟨"BindingServer$Parser", "comprehension", "(I)Z"⟩, 13) := ⟨⟨by decide +kernel, by decide +kernel⟩, List.mem_of_getElem? (i := 162) (by decide +kernel), List.mem_of_getElem? (i := 531) (by decide +kernel), List.mem_of_getElem? (i := 532) (by decide +kernel)⟩
theorem lw_p31 : lw_okq (⟨"BindingServer$Parser", "call", "(I)Z"⟩, 13) := ⟨⟨by decide +kernel, by decide +kernel⟩, List.mem_of_getElem? (i := 162) (by decide +kernel), List.mem_of_getElem? (i := 539) (by decide +kernel), List.mem_of_getElem? (i := 540) (by decide +kernel)⟩
def lw_privs_2 : List (MethodName × Nat) := [(⟨"BindingServer$Parser", "takeName", "(I)Z"⟩, 13), (⟨"BindingServer$Parser", "parameters", "()Z"⟩, 13), (⟨"BindingServer$Parser", "nameRow", "(I)Z"⟩, 13), (⟨"BindingServer$Parser", "body", "(I)Z"⟩, 13), (⟨"BindingServer$Parser", "takeDeeper", "(II)Z"⟩, 13), (⟨"BindingServer$Parser", "simple", "(I)Z"⟩, 13), (⟨"BindingServer$Parser", "noteReturn", "()V"⟩, 13), (⟨"BindingServer$Parser", "expression", "(I)Z"⟩, 13), (⟨"BindingServer$Parser", "lambda", "(I)Z"⟩, 13), (⟨"BindingServer$Parser", "item", "(I)Z"⟩, 13), (⟨"BindingServer$Parser", "core", "(I)Z"⟩, 13), (⟨"BindingServer$Parser", "group", "(I)Z"⟩, 13), (⟨"BindingServer$Parser", "seesNameBefore", "(I)Z"⟩, 13), (⟨"BindingServer$Parser", "takeWalrus", "()V"⟩, 13), (⟨"BindingServer$Parser", "comprehension", "(I)Z"⟩, 13), (⟨"BindingServer$Parser", "call", "(I)Z"⟩, 13)]
theorem lw_r2 : ∀ q ∈ lw_privs_2, lw_okq q := List.forall_mem_cons.mpr ⟨lw_p16, List.forall_mem_cons.mpr ⟨lw_p17, List.forall_mem_cons.mpr ⟨lw_p18, List.forall_mem_cons.mpr ⟨lw_p19, List.forall_mem_cons.mpr ⟨lw_p20, List.forall_mem_cons.mpr ⟨lw_p21, List.forall_mem_cons.mpr ⟨lw_p22, List.forall_mem_cons.mpr ⟨lw_p23, List.forall_mem_cons.mpr ⟨lw_p24, List.forall_mem_cons.mpr ⟨lw_p25, List.forall_mem_cons.mpr ⟨lw_p26, List.forall_mem_cons.mpr ⟨lw_p27, List.forall_mem_cons.mpr ⟨lw_p28, List.forall_mem_cons.mpr ⟨lw_p29, List.forall_mem_cons.mpr ⟨lw_p30, List.forall_mem_cons.mpr ⟨lw_p31, fun _ h => absurd h List.not_mem_nil⟩⟩⟩⟩⟩⟩⟩⟩⟩⟩⟩⟩⟩⟩⟩⟩
theorem lw_p32 : lw_okq (⟨"BindingServer$Parser", "block", "(I)Z"⟩, 13) := ⟨⟨by decide +kernel, by decide +kernel⟩, List.mem_of_getElem? (i := 162) (by decide +kernel), List.mem_of_getElem? (i := 543) (by decide +kernel), List.mem_of_getElem? (i := 544) (by decide +kernel)⟩
theorem lw_p33 : lw_okq (⟨"BindingServer$Parser", "classBlock", "(I)Z"⟩, 13) := ⟨⟨by decide +kernel, by decide +kernel⟩, List.mem_of_getElem? (i := 162) (by decide +kernel), List.mem_of_getElem? (i := 547) (by decide +kernel), List.mem_of_getElem? (i := 548) (by decide +kernel)⟩
theorem lw_p34 : lw_okq (⟨"BindingServer$Parser", "condition", "(I)Z"⟩, 13) := ⟨⟨by decide +kernel, by decide +kernel⟩, List.mem_of_getElem? (i := 162) (by decide +kernel), List.mem_of_getElem? (i := 551) (by decide +kernel), List.mem_of_getElem? (i := 552) (by decide +kernel)⟩
theorem lw_p35 : lw_okq (⟨"BindingServer", "isAccepted", "()Z"⟩, 9) := ⟨⟨by decide +kernel, by decide +kernel⟩, List.mem_of_getElem? (i := 15) (by decide +kernel), List.mem_of_getElem? (i := 555) (by decide +kernel), List.mem_of_getElem? (i := 556) (by decide +kernel)⟩
theorem lw_p36 : lw_okq (⟨"BindingServer$Binder", "tellSpellings", "()V"⟩, 5) := ⟨⟨by decide +kernel, by decide +kernel⟩, List.mem_of_getElem? (i := 211) (by decide +kernel), List.mem_of_getElem? (i := 563) (by decide +kernel), List.mem_of_getElem? (i := 564) (by decide +kernel)⟩
theorem lw_p37 : lw_okq (⟨"BindingServer$Binder", "sameSpelling", "(II)Z"⟩, 5) := ⟨⟨by decide +kernel, by decide +kernel⟩, List.mem_of_getElem? (i := 211) (by decide +kernel), List.mem_of_getElem? (i := 567) (by decide +kernel), List.mem_of_getElem? (i := 568) (by decide +kernel)⟩
theorem lw_p38 : lw_okq (⟨"BindingServer$Binder", "findError", "(I)V"⟩, 5) := ⟨⟨by decide +kernel, by decide +kernel⟩, List.mem_of_getElem? (i := 211) (by decide +kernel), List.mem_of_getElem? (i := 579) (by decide +kernel), List.mem_of_getElem? (i := 580) (by decide +kernel)⟩
theorem lw_p39 : lw_okq (⟨"BindingServer$Binder", "errorOf", "(I)I"⟩, 5) := ⟨⟨by decide +kernel, by decide +kernel⟩, List.mem_of_getElem? (i := 211) (by decide +kernel), List.mem_of_getElem? (i := 583) (by decide +kernel), List.mem_of_getElem? (i := 584) (by decide +kernel)⟩
theorem lw_p40 : lw_okq (⟨"BindingServer$Binder", "earlierRoles", "(I)I"⟩, 5) := ⟨⟨by decide +kernel, by decide +kernel⟩, List.mem_of_getElem? (i := 211) (by decide +kernel), List.mem_of_getElem? (i := 591) (by decide +kernel), List.mem_of_getElem? (i := 592) (by decide +kernel)⟩
theorem lw_p41 : lw_okq (⟨"BindingServer$Binder", "errorOfDeclared", "(I)I"⟩, 5) := ⟨⟨by decide +kernel, by decide +kernel⟩, List.mem_of_getElem? (i := 211) (by decide +kernel), List.mem_of_getElem? (i := 599) (by decide +kernel), List.mem_of_getElem? (i := 600) (by decide +kernel)⟩
theorem lw_p42 : lw_okq (⟨"BindingServer$Binder", "search", "(II)I"⟩, 5) := ⟨⟨by decide +kernel, by decide +kernel⟩, List.mem_of_getElem? (i := 211) (by decide +kernel), List.mem_of_getElem? (i := 603) (by decide +kernel), List.mem_of_getElem? (i := 604) (by decide +kernel)⟩
theorem lw_p43 : lw_okq (⟨"BindingServer$Binder", "errorOfWalrus", "(I)I"⟩, 5) := ⟨⟨by decide +kernel, by decide +kernel⟩, List.mem_of_getElem? (i := 211) (by decide +kernel), List.mem_of_getElem? (i := 615) (by decide +kernel), List.mem_of_getElem? (i := 616) (by decide +kernel)⟩
theorem lw_p44 : lw_okq (⟨"BindingServer$Binder", "bindsTarget", "(I)Z"⟩, 5) := ⟨⟨by decide +kernel, by decide +kernel⟩, List.mem_of_getElem? (i := 211) (by decide +kernel), List.mem_of_getElem? (i := 619) (by decide +kernel), List.mem_of_getElem? (i := 620) (by decide +kernel)⟩
theorem lw_p45 : lw_okq (⟨"BindingServer$Binder", "settle", "(I)V"⟩, 5) := ⟨⟨by decide +kernel, by decide +kernel⟩, List.mem_of_getElem? (i := 211) (by decide +kernel), List.mem_of_getElem? (i := 627) (by decide +kernel), List.mem_of_getElem? (i := 628) (by decide +kernel)⟩
theorem lw_p46 : lw_okq (⟨"BindingServer$Binder", "stand", "(III)V"⟩, 5) := ⟨⟨by decide +kernel, by decide +kernel⟩, List.mem_of_getElem? (i := 211) (by decide +kernel), List.mem_of_getElem? (i := 631) (by decide +kernel), List.mem_of_getElem? (i := 632) (by decide +kernel)⟩
theorem lw_p47 : lw_okq (⟨"BindingServer$Binder", "isKnown", "(I)Z"⟩, 5) := ⟨⟨by decide +kernel, by decide +kernel⟩, List.mem_of_getElem? (i := 211) (by decide +kernel), List.mem_of_getElem? (i := 635) (by decide +kernel), List.mem_of_getElem? (i := 636) (by decide +kernel)⟩
def lw_privs_3 : List (MethodName × Nat) := [(⟨"BindingServer$Parser", "block", "(I)Z"⟩, 13), (⟨"BindingServer$Parser", "classBlock", "(I)Z"⟩, 13), (⟨"BindingServer$Parser", "condition", "(I)Z"⟩, 13), (⟨"BindingServer", "isAccepted", "()Z"⟩, 9), (⟨"BindingServer$Binder", "tellSpellings", "()V"⟩, 5), (⟨"BindingServer$Binder", "sameSpelling", "(II)Z"⟩, 5), (⟨"BindingServer$Binder", "findError", "(I)V"⟩, 5), (⟨"BindingServer$Binder", "errorOf", "(I)I"⟩, 5), (⟨"BindingServer$Binder", "earlierRoles", "(I)I"⟩, 5), (⟨"BindingServer$Binder", "errorOfDeclared", "(I)I"⟩, 5), (⟨"BindingServer$Binder", "search", "(II)I"⟩, 5), (⟨"BindingServer$Binder", "errorOfWalrus", "(I)I"⟩, 5), (⟨"BindingServer$Binder", "bindsTarget", "(I)Z"⟩, 5), (⟨"BindingServer$Binder", "settle", "(I)V"⟩, 5), (⟨"BindingServer$Binder", "stand", "(III)V"⟩, 5), (⟨"BindingServer$Binder", "isKnown", "(I)Z"⟩, 5)]
theorem lw_r3 : ∀ q ∈ lw_privs_3, lw_okq q := List.forall_mem_cons.mpr ⟨lw_p32, List.forall_mem_cons.mpr ⟨lw_p33, List.forall_mem_cons.mpr ⟨lw_p34, List.forall_mem_cons.mpr ⟨lw_p35, List.forall_mem_cons.mpr ⟨lw_p36, List.forall_mem_cons.mpr ⟨lw_p37, List.forall_mem_cons.mpr ⟨lw_p38, List.forall_mem_cons.mpr ⟨lw_p39, List.forall_mem_cons.mpr ⟨lw_p40, List.forall_mem_cons.mpr ⟨lw_p41, List.forall_mem_cons.mpr ⟨lw_p42, List.forall_mem_cons.mpr ⟨lw_p43, List.forall_mem_cons.mpr ⟨lw_p44, List.forall_mem_cons.mpr ⟨lw_p45, List.forall_mem_cons.mpr ⟨lw_p46, List.forall_mem_cons.mpr ⟨lw_p47, fun _ h => absurd h List.not_mem_nil⟩⟩⟩⟩⟩⟩⟩⟩⟩⟩⟩⟩⟩⟩⟩⟩
theorem lw_p48 : lw_okq (⟨"BindingServer$Binder", "isOfModule", "(I)Z"⟩, 5) := ⟨⟨by decide +kernel, by decide +kernel⟩, List.mem_of_getElem? (i := 211) (by decide +kernel), List.mem_of_getElem? (i := 644) (by decide +kernel), List.mem_of_getElem? (i := 645) (by decide +kernel)⟩
theorem lw_p49 : lw_okq (⟨"BindingServer$Binder", "markCells", "()V"⟩, 5) := ⟨⟨by decide +kernel, by decide +kernel⟩, List.mem_of_getElem? (i := 211) (by decide +kernel), List.mem_of_getElem? (i := 648) (by decide +kernel), List.mem_of_getElem? (i := 649) (by decide +kernel)⟩
theorem lw_p50 : lw_okq (⟨"BindingServer$Binder", "isUsedInside", "(I)Z"⟩, 5) := ⟨⟨by decide +kernel, by decide +kernel⟩, List.mem_of_getElem? (i := 211) (by decide +kernel), List.mem_of_getElem? (i := 652) (by decide +kernel), List.mem_of_getElem? (i := 653) (by decide +kernel)⟩
theorem lw_p51 : lw_okq (⟨"BindingServer$Extents", "holds", "(II)Z"⟩, 3) := ⟨⟨by decide +kernel, by decide +kernel⟩, List.mem_of_getElem? (i := 78) (by decide +kernel), List.mem_of_getElem? (i := 690) (by decide +kernel), List.mem_of_getElem? (i := 691) (by decide +kernel)⟩
theorem lw_p52 : lw_okq (⟨"BindingServer$Extents", "countSmaller", "(II)I"⟩, 3) := ⟨⟨by decide +kernel, by decide +kernel⟩, List.mem_of_getElem? (i := 78) (by decide +kernel), List.mem_of_getElem? (i := 694) (by decide +kernel), List.mem_of_getElem? (i := 695) (by decide +kernel)⟩
theorem lw_p53 : lw_okq (⟨"BindingServer", "settledAt", "(I)I"⟩, 9) := ⟨⟨by decide +kernel, by decide +kernel⟩, List.mem_of_getElem? (i := 15) (by decide +kernel), List.mem_of_getElem? (i := 720) (by decide +kernel), List.mem_of_getElem? (i := 721) (by decide +kernel)⟩
theorem lw_p54 : lw_okq (⟨"BindingServer", "isFine", "()Z"⟩, 9) := ⟨⟨by decide +kernel, by decide +kernel⟩, List.mem_of_getElem? (i := 15) (by decide +kernel), List.mem_of_getElem? (i := 724) (by decide +kernel), List.mem_of_getElem? (i := 725) (by decide +kernel)⟩
theorem lw_p55 : lw_okq (⟨"BindingServer", "respell", "(IJ)V"⟩, 9) := ⟨⟨by decide +kernel, by decide +kernel⟩, List.mem_of_getElem? (i := 15) (by decide +kernel), List.mem_of_getElem? (i := 772) (by decide +kernel), List.mem_of_getElem? (i := 773) (by decide +kernel)⟩
theorem lw_p56 : lw_okq (⟨"BindingServerModel", "replace", "(IIIJ)V"⟩, 37) := ⟨⟨by decide +kernel, by decide +kernel⟩, List.mem_of_getElem? (i := 784) (by decide +kernel), List.mem_of_getElem? (i := 909) (by decide +kernel), List.mem_of_getElem? (i := 910) (by decide +kernel)⟩
theorem lw_p57 : lw_okq (⟨"BindingServerModel", "look", "()V"⟩, 37) := ⟨⟨by decide +kernel, by decide +kernel⟩, List.mem_of_getElem? (i := 784) (by decide +kernel), List.mem_of_getElem? (i := 925) (by decide +kernel), List.mem_of_getElem? (i := 926) (by decide +kernel)⟩
theorem lw_p58 : lw_okq (⟨"BindingServerModel", "split", "()V"⟩, 37) := ⟨⟨by decide +kernel, by decide +kernel⟩, List.mem_of_getElem? (i := 784) (by decide +kernel), List.mem_of_getElem? (i := 929) (by decide +kernel), List.mem_of_getElem? (i := 930) (by decide +kernel)⟩
theorem lw_p59 : lw_okq (⟨"BindingServerModel", "endLine", "(Z)V"⟩, 37) := ⟨⟨by decide +kernel, by decide +kernel⟩, List.mem_of_getElem? (i := 784) (by decide +kernel), List.mem_of_getElem? (i := 933) (by decide +kernel), List.mem_of_getElem? (i := 934) (by decide +kernel)⟩
theorem lw_p60 : lw_okq (⟨"BindingServerModel", "put", "(IIII)V"⟩, 37) := ⟨⟨by decide +kernel, by decide +kernel⟩, List.mem_of_getElem? (i := 784) (by decide +kernel), List.mem_of_getElem? (i := 937) (by decide +kernel), List.mem_of_getElem? (i := 938) (by decide +kernel)⟩
theorem lw_p61 : lw_okq (⟨"BindingServerModel", "indent", "(III)I"⟩, 37) := ⟨⟨by decide +kernel, by decide +kernel⟩, List.mem_of_getElem? (i := 784) (by decide +kernel), List.mem_of_getElem? (i := 941) (by decide +kernel), List.mem_of_getElem? (i := 942) (by decide +kernel)⟩
theorem lw_p62 : lw_okq (⟨"BindingServerModel", "one", "(I)I"⟩, 37) := ⟨⟨by decide +kernel, by decide +kernel⟩, List.mem_of_getElem? (i := 784) (by decide +kernel), List.mem_of_getElem? (i := 945) (by decide +kernel), List.mem_of_getElem? (i := 946) (by decide +kernel)⟩
theorem lw_p63 : lw_okq (⟨"BindingServerModel", "parse", "()V"⟩, 37) := ⟨⟨by decide +kernel, by decide +kernel⟩, List.mem_of_getElem? (i := 784) (by decide +kernel), List.mem_of_getElem? (i := 973) (by decide +kernel), List.mem_of_getElem? (i := 974) (by decide +kernel)⟩
def lw_privs_4 : List (MethodName × Nat) := [(⟨"BindingServer$Binder", "isOfModule", "(I)Z"⟩, 5), (⟨"BindingServer$Binder", "markCells", "()V"⟩, 5), (⟨"BindingServer$Binder", "isUsedInside", "(I)Z"⟩, 5), (⟨"BindingServer$Extents", "holds", "(II)Z"⟩, 3), (⟨"BindingServer$Extents", "countSmaller", "(II)I"⟩, 3), (⟨"BindingServer", "settledAt", "(I)I"⟩, 9), (⟨"BindingServer", "isFine", "()Z"⟩, 9), (⟨"BindingServer", "respell", "(IJ)V"⟩, 9), (⟨"BindingServerModel", "replace", "(IIIJ)V"⟩, 37), (⟨"BindingServerModel", "look", "()V"⟩, 37), (⟨"BindingServerModel", "split", "()V"⟩, 37), (⟨"BindingServerModel", "endLine", "(Z)V"⟩, 37), (⟨"BindingServerModel", "put", "(IIII)V"⟩, 37), (⟨"BindingServerModel", "indent", "(III)I"⟩, 37), (⟨"BindingServerModel", "one", "(I)I"⟩, 37), (⟨"BindingServerModel", "parse", "()V"⟩, 37)]
theorem lw_r4 : ∀ q ∈ lw_privs_4, lw_okq q := List.forall_mem_cons.mpr ⟨lw_p48, List.forall_mem_cons.mpr ⟨lw_p49, List.forall_mem_cons.mpr ⟨lw_p50, List.forall_mem_cons.mpr ⟨lw_p51, List.forall_mem_cons.mpr ⟨lw_p52, List.forall_mem_cons.mpr ⟨lw_p53, List.forall_mem_cons.mpr ⟨lw_p54, List.forall_mem_cons.mpr ⟨lw_p55, List.forall_mem_cons.mpr ⟨lw_p56, List.forall_mem_cons.mpr ⟨lw_p57, List.forall_mem_cons.mpr ⟨lw_p58, List.forall_mem_cons.mpr ⟨lw_p59, List.forall_mem_cons.mpr ⟨lw_p60, List.forall_mem_cons.mpr ⟨lw_p61, List.forall_mem_cons.mpr ⟨lw_p62, List.forall_mem_cons.mpr ⟨lw_p63, fun _ h => absurd h List.not_mem_nil⟩⟩⟩⟩⟩⟩⟩⟩⟩⟩⟩⟩⟩⟩⟩⟩
theorem lw_p64 : lw_okq (⟨"BindingServerModel", "scopeOf", "(II)I"⟩, 37) := ⟨⟨by decide +kernel, by decide +kernel⟩, List.mem_of_getElem? (i := 784) (by decide +kernel), List.mem_of_getElem? (i := 977) (by decide +kernel), List.mem_of_getElem? (i := 978) (by decide +kernel)⟩
theorem lw_p65 : lw_okq (⟨"BindingServerModel", "push", "(II)V"⟩, 37) := ⟨⟨by decide +kernel, by decide +kernel⟩, List.mem_of_getElem? (i := 784) (by decide +kernel), List.mem_of_getElem? (i := 981) (by decide +kernel), List.mem_of_getElem? (i := 982) (by decide +kernel)⟩
theorem lw_p66 : lw_okq (⟨"BindingServerModel", "step", "(II)V"⟩, 37) := ⟨⟨by decide +kernel, by decide +kernel⟩, List.mem_of_getElem? (i := 784) (by decide +kernel), List.mem_of_getElem? (i := 985) (by decide +kernel), List.mem_of_getElem? (i := 986) (by decide +kernel)⟩
theorem lw_p67 : lw_okq (⟨"BindingServerModel", "statement", "()V"⟩, 37) := ⟨⟨by decide +kernel, by decide +kernel⟩, List.mem_of_getElem? (i := 784) (by decide +kernel), List.mem_of_getElem? (i := 989) (by decide +kernel), List.mem_of_getElem? (i := 990) (by decide +kernel)⟩
theorem lw_p68 : lw_okq (⟨"BindingServerModel", "shift", "()V"⟩, 37) := ⟨⟨by decide +kernel, by decide +kernel⟩, List.mem_of_getElem? (i := 784) (by decide +kernel), List.mem_of_getElem? (i := 993) (by decide +kernel), List.mem_of_getElem? (i := 994) (by decide +kernel)⟩
theorem lw_p69 : lw_okq (⟨"BindingServerModel", "want", "(II)V"⟩, 37) := ⟨⟨by decide +kernel, by decide +kernel⟩, List.mem_of_getElem? (i := 784) (by decide +kernel), List.mem_of_getElem? (i := 997) (by decide +kernel), List.mem_of_getElem? (i := 998) (by decide +kernel)⟩
theorem lw_p70 : lw_okq (⟨"BindingServerModel", "span", "(I)V"⟩, 37) := ⟨⟨by decide +kernel, by decide +kernel⟩, List.mem_of_getElem? (i := 784) (by decide +kernel), List.mem_of_getElem? (i := 1001) (by decide +kernel), List.mem_of_getElem? (i := 1002) (by decide +kernel)⟩
theorem lw_p71 : lw_okq (⟨"BindingServerModel", "simple", "()V"⟩, 37) := ⟨⟨by decide +kernel, by decide +kernel⟩, List.mem_of_getElem? (i := 784) (by decide +kernel), List.mem_of_getElem? (i := 1005) (by decide +kernel), List.mem_of_getElem? (i := 1006) (by decide +kernel)⟩
theorem lw_p72 : lw_okq (⟨"BindingServerModel", "begins", "()Z"⟩, 37) := ⟨⟨by decide +kernel, by decide +kernel⟩, List.mem_of_getElem? (i := 784) (by decide +kernel), List.mem_of_getElem? (i := 1009) (by decide +kernel), List.mem_of_getElem? (i := 1010) (by decide +kernel)⟩
theorem lw_p73 : lw_okq (⟨"BindingServerModel", "is", "(II)Z"⟩, 37) := ⟨⟨by decide +kernel, by decide +kernel⟩, List.mem_of_getElem? (i := 784) (by decide +kernel), List.mem_of_getElem? (i := 1013) (by decide +kernel), List.mem_of_getElem? (i := 1014) (by decide +kernel)⟩
theorem lw_p74 : lw_okq (⟨"BindingServerModel", "expr", "()V"⟩, 37) := ⟨⟨by decide +kernel, by decide +kernel⟩, List.mem_of_getElem? (i := 784) (by decide +kernel), List.mem_of_getElem? (i := 1017) (by decide +kernel), List.mem_of_getElem? (i := 1018) (by decide +kernel)⟩
theorem lw_p75 : lw_okq (⟨"BindingServerModel", "deeper", "()Z"⟩, 37) := ⟨⟨by decide +kernel, by decide +kernel⟩, List.mem_of_getElem? (i := 784) (by decide +kernel), List.mem_of_getElem? (i := 1021) (by decide +kernel), List.mem_of_getElem? (i := 1022) (by decide +kernel)⟩
theorem lw_p76 : lw_okq (⟨"BindingServerModel", "fail", "(I)V"⟩, 37) := ⟨⟨by decide +kernel, by decide +kernel⟩, List.mem_of_getElem? (i := 784) (by decide +kernel), List.mem_of_getElem? (i := 1025) (by decide +kernel), List.mem_of_getElem? (i := 1026) (by decide +kernel)⟩
theorem lw_p77 : lw_okq (⟨"BindingServerModel", "item", "()V"⟩, 37) := ⟨⟨by decide +kernel, by decide +kernel⟩, List.mem_of_getElem? (i := 784) (by decide +kernel), List.mem_of_getElem? (i := 1029) (by decide +kernel), List.mem_of_getElem? (i := 1030) (by decide +kernel)⟩
theorem lw_p78 : lw_okq (⟨"BindingServerModel", "suffix", "(I)V"⟩, 37) := ⟨⟨by decide +kernel, by decide +kernel⟩, List.mem_of_getElem? (i := 784) (by decide +kernel), List.mem_of_getElem? (i := 1033) (by decide +kernel), List.mem_of_getElem? (i := 1034) (by decide +kernel)⟩
theorem lw_p79 : lw_okq (⟨"BindingServerModel", "lists", "(II)V"⟩, 37) := ⟨⟨by decide +kernel, by decide +kernel⟩, List.mem_of_getElem? (i := 784) (by decide +kernel), List.mem_of_getElem? (i := 1037) (by decide +kernel), List.mem_of_getElem? (i := 1038) (by decide +kernel)⟩
def lw_privs_5 : List (MethodName × Nat) := [(⟨"BindingServerModel", "scopeOf", "(II)I"⟩, 37), (⟨"BindingServerModel", "push", "(II)V"⟩, 37), (⟨"BindingServerModel", "step", "(II)V"⟩, 37), (⟨"BindingServerModel", "statement", "()V"⟩, 37), (⟨"BindingServerModel", "shift", "()V"⟩, 37), (⟨"BindingServerModel", "want", "(II)V"⟩, 37), (⟨"BindingServerModel", "span", "(I)V"⟩, 37), (⟨"BindingServerModel", "simple", "()V"⟩, 37), (⟨"BindingServerModel", "begins", "()Z"⟩, 37), (⟨"BindingServerModel", "is", "(II)Z"⟩, 37), (⟨"BindingServerModel", "expr", "()V"⟩, 37), (⟨"BindingServerModel", "deeper", "()Z"⟩, 37), (⟨"BindingServerModel", "fail", "(I)V"⟩, 37), (⟨"BindingServerModel", "item", "()V"⟩, 37), (⟨"BindingServerModel", "suffix", "(I)V"⟩, 37), (⟨"BindingServerModel", "lists", "(II)V"⟩, 37)]
theorem lw_r5 : ∀ q ∈ lw_privs_5, lw_okq q := List.forall_mem_cons.mpr ⟨lw_p64, List.forall_mem_cons.mpr ⟨lw_p65, List.forall_mem_cons.mpr ⟨lw_p66, List.forall_mem_cons.mpr ⟨lw_p67, List.forall_mem_cons.mpr ⟨lw_p68, List.forall_mem_cons.mpr ⟨lw_p69, List.forall_mem_cons.mpr ⟨lw_p70, List.forall_mem_cons.mpr ⟨lw_p71, List.forall_mem_cons.mpr ⟨lw_p72, List.forall_mem_cons.mpr ⟨lw_p73, List.forall_mem_cons.mpr ⟨lw_p74, List.forall_mem_cons.mpr ⟨lw_p75, List.forall_mem_cons.mpr ⟨lw_p76, List.forall_mem_cons.mpr ⟨lw_p77, List.forall_mem_cons.mpr ⟨lw_p78, List.forall_mem_cons.mpr ⟨lw_p79, fun _ h => absurd h List.not_mem_nil⟩⟩⟩⟩⟩⟩⟩⟩⟩⟩⟩⟩⟩⟩⟩⟩
theorem lw_p80 : lw_okq (⟨"BindingServerModel", "rest", "(II)V"⟩, 37) := ⟨⟨by decide +kernel, by decide +kernel⟩, List.mem_of_getElem? (i := 784) (by decide +kernel), List.mem_of_getElem? (i := 1041) (by decide +kernel), List.mem_of_getElem? (i := 1042) (by decide +kernel)⟩
theorem lw_p81 : lw_okq (⟨"BindingServerModel", "sortScopes", "()V"⟩, 37) := ⟨⟨by decide +kernel, by decide +kernel⟩, List.mem_of_getElem? (i := 784) (by decide +kernel), List.mem_of_getElem? (i := 1045) (by decide +kernel), List.mem_of_getElem? (i := 1046) (by decide +kernel)⟩
theorem lw_p82 : lw_okq (⟨"BindingServerModel", "exchange", "(I)V"⟩, 37) := ⟨⟨by decide +kernel, by decide +kernel⟩, List.mem_of_getElem? (i := 784) (by decide +kernel), List.mem_of_getElem? (i := 1049) (by decide +kernel), List.mem_of_getElem? (i := 1050) (by decide +kernel)⟩
theorem lw_p83 : lw_okq (⟨"BindingServerModel", "listNames", "()V"⟩, 37) := ⟨⟨by decide +kernel, by decide +kernel⟩, List.mem_of_getElem? (i := 784) (by decide +kernel), List.mem_of_getElem? (i := 1053) (by decide +kernel), List.mem_of_getElem? (i := 1054) (by decide +kernel)⟩
theorem lw_p84 : lw_okq (⟨"BindingServerModel", "findError", "()V"⟩, 37) := ⟨⟨by decide +kernel, by decide +kernel⟩, List.mem_of_getElem? (i := 784) (by decide +kernel), List.mem_of_getElem? (i := 1057) (by decide +kernel), List.mem_of_getElem? (i := 1058) (by decide +kernel)⟩
theorem lw_p85 : lw_okq (⟨"BindingServerModel", "belongs", "(I)I"⟩, 37) := ⟨⟨by decide +kernel, by decide +kernel⟩, List.mem_of_getElem? (i := 784) (by decide +kernel), List.mem_of_getElem? (i := 1061) (by decide +kernel), List.mem_of_getElem? (i := 1062) (by decide +kernel)⟩
theorem lw_p86 : lw_okq (⟨"BindingServerModel", "lies", "(I)I"⟩, 37) := ⟨⟨by decide +kernel, by decide +kernel⟩, List.mem_of_getElem? (i := 784) (by decide +kernel), List.mem_of_getElem? (i := 1065) (by decide +kernel), List.mem_of_getElem? (i := 1066) (by decide +kernel)⟩
theorem lw_p87 : lw_okq (⟨"BindingServerModel", "inSource", "(II)Z"⟩, 37) := ⟨⟨by decide +kernel, by decide +kernel⟩, List.mem_of_getElem? (i := 784) (by decide +kernel), List.mem_of_getElem? (i := 1069) (by decide +kernel), List.mem_of_getElem? (i := 1070) (by decide +kernel)⟩
theorem lw_p88 : lw_okq (⟨"BindingServerModel", "parent", "(I)I"⟩, 37) := ⟨⟨by decide +kernel, by decide +kernel⟩, List.mem_of_getElem? (i := 784) (by decide +kernel), List.mem_of_getElem? (i := 1073) (by decide +kernel), List.mem_of_getElem? (i := 1074) (by decide +kernel)⟩
theorem lw_p89 : lw_okq (⟨"BindingServerModel", "some", "(IIIII)Z"⟩, 37) := ⟨⟨by decide +kernel, by decide +kernel⟩, List.mem_of_getElem? (i := 784) (by decide +kernel), List.mem_of_getElem? (i := 1077) (by decide +kernel), List.mem_of_getElem? (i := 1078) (by decide +kernel)⟩
theorem lw_p90 : lw_okq (⟨"BindingServerModel", "same", "(II)Z"⟩, 37) := ⟨⟨by decide +kernel, by decide +kernel⟩, List.mem_of_getElem? (i := 784) (by decide +kernel), List.mem_of_getElem? (i := 1081) (by decide +kernel), List.mem_of_getElem? (i := 1082) (by decide +kernel)⟩
theorem lw_p91 : lw_okq (⟨"BindingServerModel", "note", "(II)V"⟩, 37) := ⟨⟨by decide +kernel, by decide +kernel⟩, List.mem_of_getElem? (i := 784) (by decide +kernel), List.mem_of_getElem? (i := 1085) (by decide +kernel), List.mem_of_getElem? (i := 1086) (by decide +kernel)⟩
theorem lw_p92 : lw_okq (⟨"BindingServerModel", "declares", "(I)Z"⟩, 37) := ⟨⟨by decide +kernel, by decide +kernel⟩, List.mem_of_getElem? (i := 784) (by decide +kernel), List.mem_of_getElem? (i := 1089) (by decide +kernel), List.mem_of_getElem? (i := 1090) (by decide +kernel)⟩
theorem lw_p93 : lw_okq (⟨"BindingServerModel", "declared", "(III)V"⟩, 37) := ⟨⟨by decide +kernel, by decide +kernel⟩, List.mem_of_getElem? (i := 784) (by decide +kernel), List.mem_of_getElem? (i := 1093) (by decide +kernel), List.mem_of_getElem? (i := 1094) (by decide +kernel)⟩
theorem lw_p94 : lw_okq (⟨"BindingServerModel", "search", "(II)I"⟩, 37) := ⟨⟨by decide +kernel, by decide +kernel⟩, List.mem_of_getElem? (i := 784) (by decide +kernel), List.mem_of_getElem? (i := 1097) (by decide +kernel), List.mem_of_getElem? (i := 1098) (by decide +kernel)⟩
theorem lw_p95 : lw_okq (⟨"BindingServerModel", "walrus", "(II)V"⟩, 37) := ⟨⟨by decide +kernel, by decide +kernel⟩, List.mem_of_getElem? (i := 784) (by decide +kernel), List.mem_of_getElem? (i := 1101) (by decide +kernel), List.mem_of_getElem? (i := 1102) (by decide +kernel)⟩
def lw_privs_6 : List (MethodName × Nat) := [(⟨"BindingServerModel", "rest", "(II)V"⟩, 37), (⟨"BindingServerModel", "sortScopes", "()V"⟩, 37), (⟨"BindingServerModel", "exchange", "(I)V"⟩, 37), (⟨"BindingServerModel", "listNames", "()V"⟩, 37), (⟨"BindingServerModel", "findError", "()V"⟩, 37), (⟨"BindingServerModel", "belongs", "(I)I"⟩, 37), (⟨"BindingServerModel", "lies", "(I)I"⟩, 37), (⟨"BindingServerModel", "inSource", "(II)Z"⟩, 37), (⟨"BindingServerModel", "parent", "(I)I"⟩, 37), (⟨"BindingServerModel", "some", "(IIIII)Z"⟩, 37), (⟨"BindingServerModel", "same", "(II)Z"⟩, 37), (⟨"BindingServerModel", "note", "(II)V"⟩, 37), (⟨"BindingServerModel", "declares", "(I)Z"⟩, 37), (⟨"BindingServerModel", "declared", "(III)V"⟩, 37), (⟨"BindingServerModel", "search", "(II)I"⟩, 37), (⟨"BindingServerModel", "walrus", "(II)V"⟩, 37)]
theorem lw_r6 : ∀ q ∈ lw_privs_6, lw_okq q := List.forall_mem_cons.mpr ⟨lw_p80, List.forall_mem_cons.mpr ⟨lw_p81, List.forall_mem_cons.mpr ⟨lw_p82, List.forall_mem_cons.mpr ⟨lw_p83, List.forall_mem_cons.mpr ⟨lw_p84, List.forall_mem_cons.mpr ⟨lw_p85, List.forall_mem_cons.mpr ⟨lw_p86, List.forall_mem_cons.mpr ⟨lw_p87, List.forall_mem_cons.mpr ⟨lw_p88, List.forall_mem_cons.mpr ⟨lw_p89, List.forall_mem_cons.mpr ⟨lw_p90, List.forall_mem_cons.mpr ⟨lw_p91, List.forall_mem_cons.mpr ⟨lw_p92, List.forall_mem_cons.mpr ⟨lw_p93, List.forall_mem_cons.mpr ⟨lw_p94, List.forall_mem_cons.mpr ⟨lw_p95, fun _ h => absurd h List.not_mem_nil⟩⟩⟩⟩⟩⟩⟩⟩⟩⟩⟩⟩⟩⟩⟩⟩
theorem lw_p96 : lw_okq (⟨"BindingServerModel", "smallerThan", "(II)I"⟩, 37) := ⟨⟨by decide +kernel, by decide +kernel⟩, List.mem_of_getElem? (i := 784) (by decide +kernel), List.mem_of_getElem? (i := 1121) (by decide +kernel), List.mem_of_getElem? (i := 1122) (by decide +kernel)⟩
theorem lw_p97 : lw_okq (⟨"BindingServerModel", "occurrence", "(I)I"⟩, 37) := ⟨⟨by decide +kernel, by decide +kernel⟩, List.mem_of_getElem? (i := 784) (by decide +kernel), List.mem_of_getElem? (i := 1145) (by decide +kernel), List.mem_of_getElem? (i := 1146) (by decide +kernel)⟩
theorem lw_p98 : lw_okq (⟨"BindingServerModel", "fine", "()Z"⟩, 37) := ⟨⟨by decide +kernel, by decide +kernel⟩, List.mem_of_getElem? (i := 784) (by decide +kernel), List.mem_of_getElem? (i := 1149) (by decide +kernel), List.mem_of_getElem? (i := 1150) (by decide +kernel)⟩
theorem lw_p99 : lw_okq (⟨"BindingServerModel", "resolved", "(I)I"⟩, 37) := ⟨⟨by decide +kernel, by decide +kernel⟩, List.mem_of_getElem? (i := 784) (by decide +kernel), List.mem_of_getElem? (i := 1153) (by decide +kernel), List.mem_of_getElem? (i := 1154) (by decide +kernel)⟩
theorem lw_p100 : lw_okq (⟨"BindingServerModel", "meant", "(I)I"⟩, 37) := ⟨⟨by decide +kernel, by decide +kernel⟩, List.mem_of_getElem? (i := 784) (by decide +kernel), List.mem_of_getElem? (i := 1157) (by decide +kernel), List.mem_of_getElem? (i := 1158) (by decide +kernel)⟩
theorem lw_p101 : lw_okq (⟨"BindingServerModel", "isKnown", "(I)Z"⟩, 37) := ⟨⟨by decide +kernel, by decide +kernel⟩, List.mem_of_getElem? (i := 784) (by decide +kernel), List.mem_of_getElem? (i := 1161) (by decide +kernel), List.mem_of_getElem? (i := 1162) (by decide +kernel)⟩
theorem lw_p102 : lw_okq (⟨"BindingServerModel", "binds", "(I)Z"⟩, 37) := ⟨⟨by decide +kernel, by decide +kernel⟩, List.mem_of_getElem? (i := 784) (by decide +kernel), List.mem_of_getElem? (i := 1165) (by decide +kernel), List.mem_of_getElem? (i := 1166) (by decide +kernel)⟩
theorem lw_p103 : lw_okq (⟨"BindingServerModel", "sameVariable", "(II)Z"⟩, 37) := ⟨⟨by decide +kernel, by decide +kernel⟩, List.mem_of_getElem? (i := 784) (by decide +kernel), List.mem_of_getElem? (i := 1173) (by decide +kernel), List.mem_of_getElem? (i := 1174) (by decide +kernel)⟩
theorem lw_p104 : lw_okq (⟨"BindingServerModel", "noted", "(Z)Z"⟩, 37) := ⟨⟨by decide +kernel, by decide +kernel⟩, List.mem_of_getElem? (i := 784) (by decide +kernel), List.mem_of_getElem? (i := 1188) (by decide +kernel), List.mem_of_getElem? (i := 1189) (by decide +kernel)⟩
theorem lw_p105 : lw_okq (⟨"BindingServerModel", "renamed", "(IIIJ)Z"⟩, 37) := ⟨⟨by decide +kernel, by decide +kernel⟩, List.mem_of_getElem? (i := 784) (by decide +kernel), List.mem_of_getElem? (i := 1192) (by decide +kernel), List.mem_of_getElem? (i := 1193) (by decide +kernel)⟩
def lw_privs_7 : List (MethodName × Nat) := [(⟨"BindingServerModel", "smallerThan", "(II)I"⟩, 37), (⟨"BindingServerModel", "occurrence", "(I)I"⟩, 37), (⟨"BindingServerModel", "fine", "()Z"⟩, 37), (⟨"BindingServerModel", "resolved", "(I)I"⟩, 37), (⟨"BindingServerModel", "meant", "(I)I"⟩, 37), (⟨"BindingServerModel", "isKnown", "(I)Z"⟩, 37), (⟨"BindingServerModel", "binds", "(I)Z"⟩, 37), (⟨"BindingServerModel", "sameVariable", "(II)Z"⟩, 37), (⟨"BindingServerModel", "noted", "(Z)Z"⟩, 37), (⟨"BindingServerModel", "renamed", "(IIIJ)Z"⟩, 37)]
theorem lw_r7 : ∀ q ∈ lw_privs_7, lw_okq q := List.forall_mem_cons.mpr ⟨lw_p96, List.forall_mem_cons.mpr ⟨lw_p97, List.forall_mem_cons.mpr ⟨lw_p98, List.forall_mem_cons.mpr ⟨lw_p99, List.forall_mem_cons.mpr ⟨lw_p100, List.forall_mem_cons.mpr ⟨lw_p101, List.forall_mem_cons.mpr ⟨lw_p102, List.forall_mem_cons.mpr ⟨lw_p103, List.forall_mem_cons.mpr ⟨lw_p104, List.forall_mem_cons.mpr ⟨lw_p105, fun _ h => absurd h List.not_mem_nil⟩⟩⟩⟩⟩⟩⟩⟩⟩⟩
def lw_privs : List (MethodName × Nat) := lw_privs_1 ++ (lw_privs_2 ++ (lw_privs_3 ++ (lw_privs_4 ++ (lw_privs_5 ++ (lw_privs_6 ++ (lw_privs_7))))))
def lw_tbl : List Cond := k2_sels lw_privs ++ tables_1
theorem lw_privs_ok : ∀ q ∈ lw_privs, lw_okq q := by
  show ∀ q ∈ lw_privs_1 ++ (lw_privs_2 ++ (lw_privs_3 ++ (lw_privs_4 ++ (lw_privs_5 ++ (lw_privs_6 ++ (lw_privs_7)))))), lw_okq q
  exact List.forall_mem_append.mpr ⟨lw_r1, List.forall_mem_append.mpr ⟨lw_r2, List.forall_mem_append.mpr ⟨lw_r3, List.forall_mem_append.mpr ⟨lw_r4, List.forall_mem_append.mpr ⟨lw_r5, List.forall_mem_append.mpr ⟨lw_r6, lw_r7⟩⟩⟩⟩⟩⟩
-- ===== end of PART A; then your names; then what follows =====
end
section
/-! THE ABSTRACT MACHINE. Its heap: a list of cells; an array of ints (false) or chars (true), or an object (its class's number, its fields). Its addresses: 0 the script, 1 the table of words, k + 2 the cell k. -/
abbrev am_E : Type := (Bool × List Int32) ⊕ (Nat × List Value)
/-- what an instruction links to: two numbers, the place of its word in the tables, a constant -/
abbrev am_X : Type := Nat × Nat × Nat × Value
abbrev am_I : Type := Nat × Instr × Nat × am_X
abbrev am_M : Type := MethodName × ByteArray × Nat × Option FieldType × List am_I
/-- methods, classes, types of their fields, the script (none: it isn't looked at), the table of words -/
abbrev am_C : Type := List am_M × List vw_C × (Nat → Nat → FieldType) × Option (List Int32) × List Int64
abbrev am_V : Type := List (Nat × Value)
abbrev am_Z : Type := Nat × am_V × List Value × List am_E
def am_ix : List am_I → Nat → Option (Instr × Nat × am_X)
  | [], _ => none
  | q :: r, pc => bif q.1 == pc then some q.2 else am_ix r pc
def am_at (C : am_C) (mi pc : Nat) : Option (Instr × Nat × am_X) := match C.1[mi]? with
  | some M => am_ix M.2.2.2.2 pc
  | none => none
def am_rt (C : am_C) (mi : Nat) : Option FieldType := match C.1[mi]? with
  | some M => M.2.2.2.1
  | none => none
def am_ob (h : List am_E) (a : Nat) : Option (Nat × List Value) := match a with
  | k + 2 => (match h[k]? with
    | some (.inr o) => some o
    | _ => none)
  | _ => none
def am_ar (h : List am_E) (a : Nat) : Option (Bool × List Int32) := match a with
  | k + 2 => (match h[k]? with
    | some (.inl o) => some o
    | _ => none)
  | _ => none
def am_lk : am_V → Nat → Option Value
  | [], _ => none
  | q :: r, i => bif q.1 == i then some q.2 else am_lk r i
def am_c2 (lv : am_V) (i : Nat) : Bool := match i with
  | 0 => false
  | j + 1 => (match am_lk lv j with
    | some v => v.category == 2
    | none => false)
def am_s1 (lv : am_V) (i : Nat) (v : Value) : am_V := (i, v) :: lv.filter (fun q => !(q.1 == i) && !(q.1 + 1 == i && (q.2.category == 2 || am_c2 lv i)))
def am_s2 (lv : am_V) (i : Nat) (v : Value) : am_V := (i, v) :: lv.filter (fun q => !(q.1 == i) && (!(q.1 == i + 1) && !(q.1 + 1 == i && (q.2.category == 2 || am_c2 lv i))))
def am_ca (st : List Value) : Nat := (st.map fun v => v.category).sum
def am_if (c : ClassFile.Cond) (x y : Int32) : Bool := match c with
  | .eq => decide (x = y)
  | .ne => decide (¬ x = y)
  | .lt => decide (x < y)
  | .ge => decide (y ≤ x)
  | .gt => decide (y < x)
  | .le => decide (x ≤ y)
def am_to (pc : Nat) (o : Int) : Option Nat := match (pc : Int) + o with
  | .ofNat t => some t
  | .negSucc _ => none
/-- does a value fit a field of the type -/
def am_fi (ty : FieldType) (v : Value) : Bool := match ty with
  | .int => (match v with
    | .int _ => true
    | _ => false)
  | .boolean => (match v with
    | .int n => decide (n = 0) || decide (n = 1)
    | _ => false)
  | .object _ => (match v with
    | .ref _ => true
    | _ => false)
  | .array _ => (match v with
    | .ref _ => true
    | _ => false)
  | _ => false
-- the kinds of steps
def am_ii (f : Int32 → Int32 → Option Int32) (pc : Nat) (lv : am_V) (st : List Value) (h : List am_E) : Option am_Z := match st with
  | .int y :: .int x :: r => (match f x y with
    | some v => some (pc + 1, lv, .int v :: r, h)
    | none => none)
  | _ => none
def am_ll (f : Int64 → Int64 → Value) (pc : Nat) (lv : am_V) (st : List Value) (h : List am_E) : Option am_Z := match st with
  | .long y :: .long x :: r => some (pc + 1, lv, f x y :: r, h)
  | _ => none
def am_li (f : Int64 → Int32 → Int64) (pc : Nat) (lv : am_V) (st : List Value) (h : List am_E) : Option am_Z := match st with
  | .int y :: .long x :: r => some (pc + 1, lv, .long (f x y) :: r, h)
  | _ => none
def am_ui (f : Int32 → Value) (pc : Nat) (lv : am_V) (st : List Value) (h : List am_E) : Option am_Z := match st with
  | .int x :: r => some (pc + 1, lv, f x :: r, h)
  | _ => none
def am_ul (f : Int64 → Value) (pc : Nat) (lv : am_V) (st : List Value) (h : List am_E) : Option am_Z := match st with
  | .long x :: r => some (pc + 1, lv, f x :: r, h)
  | _ => none
def am_li1 (lv : am_V) (i pc : Nat) (st : List Value) (h : List am_E) : Option am_Z := match am_lk lv i with
  | some (.int v) => some (pc, lv, .int v :: st, h)
  | _ => none
def am_ll1 (lv : am_V) (i pc : Nat) (st : List Value) (h : List am_E) : Option am_Z := match am_lk lv i with
  | some (.long v) => some (pc, lv, .long v :: st, h)
  | _ => none
def am_la1 (lv : am_V) (i pc : Nat) (st : List Value) (h : List am_E) : Option am_Z := match am_lk lv i with
  | some (.ref v) => some (pc, lv, .ref v :: st, h)
  | _ => none
def am_si1 (lv : am_V) (i pc : Nat) (st : List Value) (h : List am_E) : Option am_Z := match st with
  | .int v :: r => some (pc, am_s1 lv i (.int v), r, h)
  | _ => none
def am_sl1 (lv : am_V) (i pc : Nat) (st : List Value) (h : List am_E) : Option am_Z := match st with
  | .long v :: r => some (pc, am_s2 lv i (.long v), r, h)
  | _ => none
def am_sa1 (lv : am_V) (i pc : Nat) (st : List Value) (h : List am_E) : Option am_Z := match st with
  | .ref v :: r => some (pc, am_s1 lv i (.ref v), r, h)
  | _ => none
def am_inc (lv : am_V) (i : Nat) (n : Int) (pc : Nat) (st : List Value) (h : List am_E) : Option am_Z := match am_lk lv i with
  | some (.int v) => some (pc + 3, am_s1 lv i (.int (v + Int32.ofInt n)), st, h)
  | _ => none
def am_b1 (c : ClassFile.Cond) (tgt pc : Nat) (lv : am_V) (st : List Value) (h : List am_E) : Option am_Z := match st with
  | .int x :: r => some (bif am_if c x 0 then tgt else pc + 3, lv, r, h)
  | _ => none
def am_b2 (c : ClassFile.Cond) (tgt pc : Nat) (lv : am_V) (st : List Value) (h : List am_E) : Option am_Z := match st with
  | .int y :: .int x :: r => some (bif am_if c x y then tgt else pc + 3, lv, r, h)
  | _ => none
def am_ts (dflt lo hi : Int) (offs : Array Int) (pc : Nat) (x : Int32) : Option Nat :=
  if x.toInt < lo ∨ hi < x.toInt then am_to pc dflt else (match offs[(x.toInt - lo).toNat]? with
    | some o => am_to pc o
    | none => none)
def am_sw (f : Int32 → Option Nat) (lv : am_V) (st : List Value) (h : List am_E) : Option am_Z := match st with
  | .int x :: r => (match f x with
    | some tgt => some (tgt, lv, r, h)
    | none => none)
  | _ => none
def am_dup (pc : Nat) (lv : am_V) (st : List Value) (h : List am_E) : Option am_Z := match st with
  | v :: r => bif v.category == 1 then some (pc + 1, lv, v :: v :: r, h) else none
  | _ => none
def am_pop (pc : Nat) (lv : am_V) (st : List Value) (h : List am_E) : Option am_Z := match st with
  | v :: r => bif v.category == 1 then some (pc + 1, lv, r, h) else none
  | _ => none
def am_get (ci k pc : Nat) (lv : am_V) (st : List Value) (h : List am_E) : Option am_Z := match st with
  | .ref a :: r => (match am_ob h a with
    | some o => bif o.1 == ci then (match o.2[k]? with
      | some v => some (pc + 3, lv, v :: r, h)
      | none => none) else none
    | none => none)
  | _ => none
def am_put (ty : FieldType) (ci k pc : Nat) (lv : am_V) (st : List Value) (h : List am_E) : Option am_Z := match st with
  | v :: .ref a :: r => (match am_ob h a with
    | some o => bif o.1 == ci && (decide (k < o.2.length) && am_fi ty v) then some (pc + 3, lv, r, h.set (a - 2) (.inr (ci, o.2.set k v))) else none
    | none => none)
  | _ => none
def am_ld (tg : Bool) (xs : Option (List Int32)) (pc : Nat) (lv : am_V) (st : List Value) (h : List am_E) : Option am_Z := match st with
  | .int i :: .ref a :: r => bif decide (i < 0) then none else (match a with
    | 0 => bif tg then none else (match xs.bind (fun l => l[i.toNatClampNeg]?) with
      | some v => some (pc + 1, lv, .int v :: r, h)
      | none => none)
    | a => (match am_ar h a with
      | some o => bif o.1 == tg then (match o.2[i.toNatClampNeg]? with
        | some v => some (pc + 1, lv, .int v :: r, h)
        | none => none) else none
      | none => none))
  | _ => none
def am_lld (wd : List Int64) (pc : Nat) (lv : am_V) (st : List Value) (h : List am_E) : Option am_Z := match st with
  | .int i :: .ref 1 :: r => bif decide (i < 0) then none else (match wd[i.toNatClampNeg]? with
    | some v => some (pc + 1, lv, .long v :: r, h)
    | none => none)
  | _ => none
def am_sto (tg : Bool) (pc : Nat) (lv : am_V) (st : List Value) (h : List am_E) : Option am_Z := match st with
  | .int v :: .int i :: .ref a :: r => (match am_ar h a with
    | some o => bif o.1 == tg && (!decide (i < 0) && decide (i.toNatClampNeg < o.2.length)) then
        some (pc + 1, lv, r, h.set (a - 2) (.inl (tg, o.2.set i.toNatClampNeg (bif tg then vp_nar .char v else v)))) else none
    | none => none)
  | _ => none
def am_len (xs : Option (List Int32)) (wd : List Int64) (pc : Nat) (lv : am_V) (st : List Value) (h : List am_E) : Option am_Z := match st with
  | .ref a :: r => (match a with
    | 0 => (match xs with
      | some l => some (pc + 1, lv, .int (Int32.ofNat l.length) :: r, h)
      | none => none)
    | 1 => some (pc + 1, lv, .int (Int32.ofNat wd.length) :: r, h)
    | a => (match am_ar h a with
      | some o => some (pc + 1, lv, .int (Int32.ofNat o.2.length) :: r, h)
      | none => none))
  | _ => none
def am_max (d pc : Nat) (lv : am_V) (st : List Value) (h : List am_E) : Option am_Z := match st with
  | .int y :: .int x :: r => bif decide (1 ≤ d) && decide (am_ca r ≤ 8) then some (pc + 3, lv, .int (if x < y then y else x) :: r, h) else none
  | _ => none
def am_oi (d pc : Nat) (lv : am_V) (st : List Value) (h : List am_E) : Option am_Z := match st with
  | .ref _ :: r => bif decide (1 ≤ d) && decide (am_ca r ≤ 8) then some (pc + 3, lv, r, h) else none
  | _ => none
/-- n values of f from place sp on, laid into g from place dp on -/
def am_cp (f g : List Int32) (sp dp n : Nat) : List Int32 := g.take dp ++ ((f.drop sp).take n ++ g.drop (dp + n))
def am_acp (d pc : Nat) (lv : am_V) (st : List Value) (h : List am_E) : Option am_Z := match st with
  | .int n :: .int dp :: .ref a :: .int sp :: .ref b :: r => (match am_ar h a, am_ar h b with
    | some o, some q => bif (o.1 && q.1) && ((decide (1 ≤ d) && decide (am_ca r ≤ 8)) && ((!decide (sp < 0) && (!decide (dp < 0) && !decide (n < 0))) && ((decide (sp.toNatClampNeg + n.toNatClampNeg ≤ q.2.length) && decide (dp.toNatClampNeg + n.toNatClampNeg ≤ o.2.length)) && ((q.2.drop sp.toNatClampNeg).take n.toNatClampNeg).all (fun z => fits .char (.int z))))) then
        some (pc + 3, lv, r, h.set (a - 2) (.inl (true, am_cp q.2 o.2 sp.toNatClampNeg dp.toNatClampNeg n.toNatClampNeg))) else none
    | _, _ => none)
  | _ => none
def am_cal (C : am_C) (cal : Nat) (vs rest : List Value) : Option (Nat × List Value × List Value) := match C.1[cal]? with
  | some M => bif decide ((lg_sl vs).length ≤ M.2.2.1) && decide (am_ca rest ≤ 8) then some (cal, vs, rest) else none
  | none => none
def am_cv (C : am_C) (cal n ci : Nat) (st : List Value) (h : List am_E) : Option (Nat × List Value × List Value) := match st.drop n with
  | .ref a :: r => (match am_ob h a with
    | some o => bif o.1 == ci then am_cal C cal (.ref a :: (st.take n).reverse) r else none
    | none => none)
  | _ => none
def am_ci (C : am_C) (cal n : Nat) (st : List Value) : Option (Nat × List Value × List Value) := match st.drop n with
  | .ref a :: r => am_cal C cal (.ref a :: (st.take n).reverse) r
  | _ => none
def am_cs (C : am_C) (cal n : Nat) (st : List Value) : Option (Nat × List Value × List Value) := bif decide (n ≤ st.length) then am_cal C cal (st.take n).reverse (st.drop n) else none
def am_na (ty : ArrayType) (pc : Nat) (st : List Value) : Option (Nat × List Value × am_E × Nat) := match st with
  | .int n :: r => bif !decide (n < 0) && decide (n.toNatClampNeg ≤ 100000) then (match ty with
    | .int => some (pc + 2, r, .inl (false, List.replicate n.toNatClampNeg 0), n.toNatClampNeg)
    | .char => some (pc + 2, r, .inl (true, List.replicate n.toNatClampNeg 0), n.toNatClampNeg)
    | _ => none) else none
  | _ => none
def am_new (C : am_C) (ci pc : Nat) (st : List Value) : Option (Nat × List Value × am_E × Nat) := match C.2.1[ci]? with
  | some q => some (pc + 3, st, .inr (ci, (List.range q.2.2).map (fun j => defaultValue (C.2.2.1 ci j))), q.2.2)
  | none => none
def am_ri (ret : Option FieldType) (st : List Value) : Option (Option Value) := match st with
  | [.int v] => (match ret with
    | some .int => some (some (.int v))
    | some .boolean => bif decide (v = 0) || decide (v = 1) then some (some (.int v)) else none
    | _ => none)
  | _ => none
def am_rl (ret : Option FieldType) (st : List Value) : Option (Option Value) := match st with
  | [.long v] => (match ret with
    | some .long => some (some (.long v))
    | _ => none)
  | _ => none
def am_rv (ret : Option FieldType) (st : List Value) : Option (Option Value) := match st with
  | [] => (match ret with
    | none => some none
    | _ => none)
  | _ => none
/-- which kind an instruction is of: a step, a call, a making, an end -/
def am_kd (i : Instr) (x : am_X) : Nat := match i with
  | .invokevirtual _ => 1
  | .invokespecial _ => bif x.1 == 1002 then 0 else 1
  | .invokestatic _ => bif x.1 == 1000 then 0 else bif x.1 == 1001 then 0 else 1
  | .newarray _ => 2
  | .new _ => 2
  | .ireturn => 3
  | .lreturn => 3
  | .return_ => 3
  | _ => 0
/-- one instruction -/
def am_do (C : am_C) (d : Nat) (i : Instr) (x : am_X) (pc : Nat) (lv : am_V) (st : List Value) (h : List am_E) : Option am_Z := match i with
  | .iconst _ => some (pc + 1, lv, x.2.2.2 :: st, h)
  | .bipush _ => some (pc + 2, lv, x.2.2.2 :: st, h)
  | .sipush _ => some (pc + 3, lv, x.2.2.2 :: st, h)
  | .lconst _ => some (pc + 1, lv, x.2.2.2 :: st, h)
  | .ldc2_w _ => some (pc + 3, lv, x.2.2.2 :: st, h)
  | .iload_n k => am_li1 lv k (pc + 1) st h
  | .iload k => am_li1 lv k (pc + 2) st h
  | .lload_n k => am_ll1 lv k (pc + 1) st h
  | .lload k => am_ll1 lv k (pc + 2) st h
  | .aload_n k => am_la1 lv k (pc + 1) st h
  | .aload k => am_la1 lv k (pc + 2) st h
  | .istore_n k => am_si1 lv k (pc + 1) st h
  | .istore k => am_si1 lv k (pc + 2) st h
  | .lstore_n k => am_sl1 lv k (pc + 1) st h
  | .lstore k => am_sl1 lv k (pc + 2) st h
  | .astore_n k => am_sa1 lv k (pc + 1) st h
  | .astore k => am_sa1 lv k (pc + 2) st h
  | .iinc k n => am_inc lv k n pc st h
  | .iadd => am_ii (fun x y => some (x + y)) pc lv st h
  | .isub => am_ii (fun x y => some (x - y)) pc lv st h
  | .imul => am_ii (fun x y => some (x * y)) pc lv st h
  | .iand => am_ii (fun x y => some (x &&& y)) pc lv st h
  | .ior => am_ii (fun x y => some (x ||| y)) pc lv st h
  | .idiv => am_ii (fun x y => if y = 0 then none else some (x / y)) pc lv st h
  | .irem => am_ii (fun x y => if y = 0 then none else some (x - x / y * y)) pc lv st h
  | .ladd => am_ll (fun x y => .long (x + y)) pc lv st h
  | .lmul => am_ll (fun x y => .long (x * y)) pc lv st h
  | .land => am_ll (fun x y => .long (x &&& y)) pc lv st h
  | .lor => am_ll (fun x y => .long (x ||| y)) pc lv st h
  | .lcmp => am_ll (fun x y => .int (lg_cmp x y)) pc lv st h
  | .lshl => am_li (fun x y => x <<< (y.toInt64 &&& 63)) pc lv st h
  | .lushr => am_li (fun x y => (x.toUInt64 >>> (y.toInt64.toUInt64 &&& Int64.toUInt64 63)).toInt64) pc lv st h
  | .i2l => am_ui (fun x => .long x.toInt64) pc lv st h
  | .i2c => am_ui (fun x => .int (x.toUInt32 % 65536).toInt32) pc lv st h
  | .l2i => am_ul (fun x => .int x.toInt32) pc lv st h
  | .ifCond c _ => am_b1 c x.1 pc lv st h
  | .if_icmp c _ => am_b2 c x.1 pc lv st h
  | .goto _ => some (x.1, lv, st, h)
  | .tableswitch dflt lo hi offs => am_sw (am_ts dflt lo hi offs pc) lv st h
  | .lookupswitch dflt ps => am_sw (fun a => am_to pc (Op.lookupswitch.offset ps.toList dflt a.toInt)) lv st h
  | .dup => am_dup pc lv st h
  | .pop => am_pop pc lv st h
  | .getfield _ => am_get x.1 x.2.1 pc lv st h
  | .putfield _ => am_put (C.2.2.1 x.1 x.2.1) x.1 x.2.1 pc lv st h
  | .getstatic _ => some (pc + 3, lv, .ref 1 :: st, h)
  | .iaload => am_ld false C.2.2.2.1 pc lv st h
  | .caload => am_ld true C.2.2.2.1 pc lv st h
  | .laload => am_lld C.2.2.2.2 pc lv st h
  | .iastore => am_sto false pc lv st h
  | .castore => am_sto true pc lv st h
  | .arraylength => am_len C.2.2.2.1 C.2.2.2.2 pc lv st h
  | .invokespecial _ => am_oi d pc lv st h
  | .invokestatic _ => bif x.1 == 1000 then am_max d pc lv st h else am_acp d pc lv st h
  | _ => none
def am_dc (C : am_C) (i : Instr) (x : am_X) (st : List Value) (h : List am_E) : Option (Nat × List Value × List Value) := match i with
  | .invokevirtual _ => (match x.2.2.2 with
    | .ref ci => am_cv C x.1 x.2.1 ci st h
    | _ => none)
  | .invokespecial _ => am_ci C x.1 x.2.1 st
  | .invokestatic _ => am_cs C x.1 x.2.1 st
  | _ => none
def am_dn (C : am_C) (i : Instr) (x : am_X) (pc : Nat) (st : List Value) : Option (Nat × List Value × am_E × Nat) := match i with
  | .newarray ty => am_na ty pc st
  | .new _ => am_new C x.1 pc st
  | _ => none
def am_dr (ret : Option FieldType) (i : Instr) (st : List Value) : Option (Option Value) := match i with
  | .ireturn => am_ri ret st
  | .lreturn => am_rl ret st
  | .return_ => am_rv ret st
  | _ => none
/-- a method's run from a frame of its own: with fuel n and d frames left; what it returns, the heap, cells and slots made -/
def am_run (C : am_C) : Nat → Nat → Nat → Nat → am_V → List Value → List am_E → Option (Option Value × List am_E × Nat × Nat)
  | 0, _, _, _, _, _, _ => none
  | n + 1, d, mi, pc, lv, st, h => match am_at C mi pc with
    | none => none
    | some q => match am_kd q.1 q.2.2 with
      | 0 => (match am_do C d q.1 q.2.2 pc lv st h with
        | none => none
        | some r => am_run C n d mi r.1 r.2.1 r.2.2.1 r.2.2.2)
      | 1 => (match am_dc C q.1 q.2.2 st h with
        | none => none
        | some r => match d with
          | 0 => none
          | d1 + 1 => match am_run C n d1 r.1 0 (lv_args 0 r.2.1) [] h with
            | none => none
            | some o => match am_run C n (d1 + 1) mi (pc + 3) lv (o.1.toList ++ r.2.2) o.2.1 with
              | none => none
              | some z => some (z.1, z.2.1, o.2.2.1 + z.2.2.1, o.2.2.2 + z.2.2.2))
      | 2 => (match am_dn C q.1 q.2.2 pc st with
        | none => none
        | some r => match am_run C n d mi r.1 lv (.ref (h.length + 2) :: r.2.1) (h ++ [r.2.2.1]) with
          | none => none
          | some z => some (z.1, z.2.1, 1 + z.2.2.1, r.2.2.2 + z.2.2.2))
      | _ => (match am_dr (am_rt C mi) q.1 st with
        | none => none
        | some r => some (r, h, 0, 0))
end
section
/-! How the abstract machine's values and cells lie in the real heap: the cell k at the address base + k. -/
def am_tr (base b t : Nat) (v : Value) : Value := match v with
  | .ref a => (match a with
    | 0 => .ref b
    | 1 => .ref t
    | k + 2 => .ref (base + k))
  | v => v
theorem am_tr_cat (base b t : Nat) (v : Value) : (am_tr base b t v).category = v.category := by
  cases v with
  | ref a =>
    match a with
    | 0 => rfl
    | 1 => rfl
    | k + 2 => rfl
  | _ => rfl
def am_lm (base b t : Nat) (lv : am_V) : am_V := lv.map (fun q => (q.1, am_tr base b t q.2))
theorem am_lk_mem {lv : am_V} {i : Nat} {v : Value} (h : am_lk lv i = some v) : (i, v) ∈ lv := by
  induction lv with
  | nil => cases h
  | cons q r ih =>
    obtain ⟨j, w⟩ := q
    have h2 : (bif j == i then some w else am_lk r i) = some v := h
    clear h
    cases hq : (j == i) with
    | true =>
      rw [hq, cond_true] at h2
      have e := eq_of_beq hq
      subst e
      cases h2
      exact List.mem_cons_self
    | false =>
      rw [hq, cond_false] at h2
      exact List.mem_cons_of_mem _ (ih h2)
theorem am_lk_at {base b t nL : Nat} {ls : Array Slot} {lv : am_V} (hl : lv_has ls nL (am_lm base b t lv)) {i : Nat} {v : Value} (h : am_lk lv i = some v) : ls[i]? = some (.val (am_tr base b t v)) :=
  hl.2.2 (i, am_tr base b t v) (List.mem_map.mpr ⟨(i, v), am_lk_mem h, rfl⟩)
theorem am_lk_ix {base b t : Nat} {lv : am_V} {i : Nat} {v : Value} (h : am_lk lv i = some v) : ∃ k : Nat, (am_lm base b t lv)[k]? = some (i, am_tr base b t v) :=
  List.getElem?_of_mem (List.mem_map.mpr ⟨(i, v), am_lk_mem h, rfl⟩)
theorem am_s1_has {base b t nL : Nat} {ls : Array Slot} {lv : am_V} {i : Nat} {v : Value} (h : lv_has ls nL ((i, am_tr base b t v) :: (am_lm base b t lv).filter (fun q => !(q.1 == i) && !(q.1 + 1 == i && q.2.category == 2)))) : lv_has ls nL (am_lm base b t (am_s1 lv i v)) := by
  refine ⟨h.1, h.2.1, fun q hq => h.2.2 q ?_⟩
  obtain ⟨w, hw, rfl⟩ := List.mem_map.mp hq
  rcases List.mem_cons.mp hw with rfl | hw
  · exact List.mem_cons_self
  · refine List.mem_cons_of_mem _ ?_
    obtain ⟨h1, h2⟩ := List.mem_filter.mp hw
    refine List.mem_filter.mpr ⟨List.mem_map.mpr ⟨w, h1, rfl⟩, ?_⟩
    simp only [am_tr_cat]
    revert h2
    cases (w.1 == i) <;> cases (w.1 + 1 == i) <;> cases (w.2.category == 2) <;> cases (am_c2 lv i) <;> simp
theorem am_s2_has {base b t nL : Nat} {ls : Array Slot} {lv : am_V} {i : Nat} {v : Value} (h : lv_has ls nL ((i, am_tr base b t v) :: (am_lm base b t lv).filter (fun q => !(q.1 == i) && (!(q.1 == i + 1) && !(q.1 + 1 == i && q.2.category == 2))))) : lv_has ls nL (am_lm base b t (am_s2 lv i v)) := by
  refine ⟨h.1, h.2.1, fun q hq => h.2.2 q ?_⟩
  obtain ⟨w, hw, rfl⟩ := List.mem_map.mp hq
  rcases List.mem_cons.mp hw with rfl | hw
  · exact List.mem_cons_self
  · refine List.mem_cons_of_mem _ ?_
    obtain ⟨h1, h2⟩ := List.mem_filter.mp hw
    refine List.mem_filter.mpr ⟨List.mem_map.mpr ⟨w, h1, rfl⟩, ?_⟩
    simp only [am_tr_cat]
    revert h2
    cases (w.1 == i) <;> cases (w.1 == i + 1) <;> cases (w.1 + 1 == i) <;> cases (w.2.category == 2) <;> cases (am_c2 lv i) <;> simp
theorem am_ca_tr (base b t : Nat) (st : List Value) : ((st.map (am_tr base b t)).map fun v => v.category).sum = am_ca st := by
  unfold am_ca
  rw [List.map_map]
  refine congrArg List.sum ?_
  apply List.map_congr_left
  intro v _
  exact am_tr_cat base b t v
theorem am_sl_tr (base b t : Nat) (vs : List Value) : (lg_sl (vs.map (am_tr base b t))).length = (lg_sl vs).length := by
  induction vs with
  | nil => rfl
  | cons v r ih =>
    have e : ∀ (w : Value) (u : List Value), (lg_sl (w :: u)).length = (if w.category = 2 then 2 else 1) + (lg_sl u).length := by
      intro w u
      unfold lg_sl
      rw [List.flatMap_cons, List.length_append]
      split <;> rfl
    rw [List.map_cons, e, e, ih, am_tr_cat]
theorem am_args_tr (base b t : Nat) (vs : List Value) : ∀ i : Nat, lv_args i (vs.map (am_tr base b t)) = am_lm base b t (lv_args i vs) := by
  induction vs with
  | nil => intro i; rfl
  | cons v r ih =>
    intro i
    show (i, am_tr base b t v) :: lv_args (if (am_tr base b t v).category = 2 then i + 2 else i + 1) (r.map (am_tr base b t)) = (i, am_tr base b t v) :: am_lm base b t (lv_args (if v.category = 2 then i + 2 else i + 1) r)
    rw [ih, am_tr_cat]
def am_e (base b t : Nat) (cI cC : ClassId) (e : am_E) : va_E := match e with
  | .inl o => .inl (bif o.1 then cC else cI, o.2.length, .inl (fun j => o.2.getD j 0))
  | .inr o => .inr (o.1, o.2.map (am_tr base b t))
def am_w (base b t : Nat) (cI cC : ClassId) (h : List am_E) : va_W := h.mapIdx (fun k e => (base + k, am_e base b t cI cC e))
theorem am_w_get (base b t : Nat) (cI cC : ClassId) (h : List am_E) (k : Nat) : (am_w base b t cI cC h)[k]? = (h[k]?).map (fun e => (base + k, am_e base b t cI cC e)) := by
  unfold am_w
  rw [List.getElem?_mapIdx]
theorem am_w_at {base b t : Nat} {cI cC : ClassId} {h : List am_E} {k : Nat} {e : am_E} (hk : h[k]? = some e) : (am_w base b t cI cC h)[k]? = some (base + k, am_e base b t cI cC e) := by
  rw [am_w_get, hk]
  rfl
def am_A (base : Nat) : Nat → Prop := fun q => base ≤ q
theorem am_w_D (base b t : Nat) (cI cC : ClassId) (h : List am_E) : va_D (am_A base) (am_w base b t cI cC h) := by
  refine ⟨fun i j p q hp hq e => ?_, fun k q hq => ?_⟩
  · rw [am_w_get] at hp hq
    obtain ⟨e1, -, rfl⟩ := Option.map_eq_some_iff.mp hp
    obtain ⟨e2, -, rfl⟩ := Option.map_eq_some_iff.mp hq
    exact Nat.add_left_cancel e
  · rw [am_w_get] at hq
    obtain ⟨e1, -, rfl⟩ := Option.map_eq_some_iff.mp hq
    exact Nat.le_add_right base k
theorem am_w_set (base b t : Nat) (cI cC : ClassId) (h : List am_E) (k : Nat) (e : am_E) : am_w base b t cI cC (h.set k e) = (am_w base b t cI cC h).set k (base + k, am_e base b t cI cC e) := by
  apply List.ext_getElem?
  intro j
  rw [am_w_get, List.getElem?_set, List.getElem?_set, am_w_get]
  have hlen : (am_w base b t cI cC h).length = h.length := by unfold am_w; rw [List.length_mapIdx]
  rw [hlen]
  by_cases hj : k = j
  · subst hj
    rw [if_pos rfl, if_pos rfl]
    by_cases hk : k < h.length
    · rw [if_pos hk, if_pos hk]
      rfl
    · rw [if_neg hk, if_neg hk]
      rfl
  · rw [if_neg hj, if_neg hj]
theorem am_w_push (base b t : Nat) (cI cC : ClassId) (h : List am_E) (e : am_E) : am_w base b t cI cC (h ++ [e]) = am_w base b t cI cC h ++ [(base + h.length, am_e base b t cI cC e)] := by
  unfold am_w
  rw [List.mapIdx_concat]
def am_Old (C : am_C) (base b t : Nat) (U : State) (H : Heap) : Prop :=
  va_X b (C.2.2.2.1.getD []).length (fun j => (C.2.2.2.1.getD []).getD j 0) U H ∧ b < base ∧ va_T .long t C.2.2.2.2.length (fun j => .long (C.2.2.2.2.getD j 0)) (am_A base) U H ∧ va_Z "BindingServer$Tokens" "WORDS" "[J" (.ref t) (am_A base) U H
theorem am_Old.moved {C : am_C} {base b t : Nat} {u U : State} {H : Heap} (hvm : u.vm.Alike U.vm) (h : am_Old C base b t u H) : am_Old C base b t U H := ⟨h.1.moved hvm, h.2.1, h.2.2.1.moved hvm, h.2.2.2.moved hvm⟩
theorem am_Old.kept {C : am_C} {base b t : Nat} {U : State} {H H1 : Heap} (h : am_Old C base b t U H) (hq : ∀ a : Nat, a < H.size → ¬ am_A base a → H1[a]? = H[a]?) : am_Old C base b t U H1 := by
  obtain ⟨h1, h2, h3, h4⟩ := h
  have hb : b < H.size := by
    obtain ⟨scr, q, -⟩ := h1
    exact (Array.getElem?_eq_some_iff.mp q).1
  exact ⟨h1.kept (hq b hb (Nat.not_le.mpr h2)), h2, h3.kept hq, h4.kept hq⟩
/-- what stays while a method runs -/
def am_F (C : am_C) (G : List Cond) (D : va_G) (cI cC : ClassId) (base b t : Nat) (p : Program) (s : State) (m : MethodId) (args : Array Value) (meth : Method) (c : Code) (M : am_M) : Prop :=
  p.tables.exec = Jvm.exec ∧ c.code = M.2.1 ∧ c.maxLocals = M.2.2.1 ∧ s.vm.findClass M.1.cls = some m.cls ∧ (∀ w ∈ G, w.before args s = true) ∧ meth.sig.returnType = M.2.2.2.1 ∧ meth.locks = false ∧ (M.1.name = "<init>" → meth.name = "<init>") ∧ va_K D C.2.1 [(cI, .int), (cC, .char)] s ∧ am_Old C base b t s s.heap ∧ base ≤ s.heap.size
/-- where it is -/
def am_N (C : am_C) (D : va_G) (cI cC : ClassId) (base b t : Nat) (s : State) (cells : Nat) (h : List am_E) (H : Heap) (locs : List Loc) : Prop := va_P D C.2.1 (am_w base b t cI cC h) H ∧ s.heap.size + cells = base + h.length ∧ va_S (am_A base) s.heap H locs
/-- no larger than what was made -/
theorem am_small {p : Program} {l : Launch} {e : Env} {R : Room} {s : State} {m : MethodId} {args : Array Value} {below : List Frame} {meth : Method} {c : Code} {H : Heap} {locs : List Loc} {cells slots : Nat} {Q : State → Prop} {g : JFrame} (k : H.size ≤ s.heap.size + cells → W p l e R s m args below meth c H locs cells slots Q g) : W p l e R s m args below meth c H locs cells slots Q g := fun T hT X => k (by
  have h3 : T.heap.size ≤ s.heap.size + cells := X.same.2.2.1
  rw [← hT]
  exact h3) T hT X
theorem am_N.size {C : am_C} {D : va_G} {cI cC : ClassId} {base b t : Nat} {s : State} {cells : Nat} {h : List am_E} {H : Heap} {locs : List Loc} (I : am_N C D cI cC base b t s cells h H locs) (hbs : base ≤ s.heap.size) (hz : H.size ≤ s.heap.size + cells) : H.size = base + h.length := by
  obtain ⟨h1, h2, h3⟩ := I
  apply Nat.le_antisymm
  · rw [← h2]; exact hz
  · cases hh : h.length with
    | zero => exact Nat.le_trans hbs h3.1
    | succ n =>
      have hlt : n < h.length := by omega
      have hq := (h1 n _ (am_w_at (List.getElem?_eq_getElem hlt))).lt
      have hq : base + n < H.size := hq
      omega
-- what the tables must say
def am_fl (C : am_C) (G : List Cond) (M : am_M) (k : Nat) (x : am_X) : Prop := ∃ q : vw_C, C.2.1[x.1]? = some q ∧ x.2.1 < q.2.2 ∧ Cond.fieldLink M.1.cls k q.1 (q.2.1 x.2.1).2.1 (q.2.1 x.2.1).2.2.1 ∈ G
abbrev am_pd (y : MethodName) (n : Nat) : Prop := (parseMethodDescriptor y.desc).map (fun d => d.parameters.length) = some n
def am_lo (C : am_C) (G : List Cond) (M : am_M) (pc : Nat) (i : Instr) (len : Nat) (x : am_X) : Prop := match i with
  | .iconst n => len = 1 ∧ x.2.2.2 = .int (Int32.ofInt n)
  | .bipush n => len = 2 ∧ x.2.2.2 = .int (Int8.ofInt n).toInt32
  | .sipush n => len = 3 ∧ x.2.2.2 = .int (Int16.ofInt n).toInt32
  | .lconst n => len = 1 ∧ x.2.2.2 = .long (Int64.ofNat (n : Nat))
  | .ldc2_w k => len = 3 ∧ ∃ v : Int64, x.2.2.2 = .long v ∧ Cond.constantLong M.1.cls k v ∈ G
  | .iload _ => len = 2
  | .lload _ => len = 2
  | .aload _ => len = 2
  | .istore_n k => len = 1 ∧ (k : Nat) < M.2.2.1
  | .istore k => len = 2 ∧ k < M.2.2.1
  | .lstore_n k => len = 1 ∧ (k : Nat) + 1 < M.2.2.1
  | .lstore k => len = 2 ∧ k + 1 < M.2.2.1
  | .astore_n k => len = 1 ∧ (k : Nat) < M.2.2.1
  | .astore k => len = 2 ∧ k < M.2.2.1
  | .iinc k _ => len = 3 ∧ k < M.2.2.1
  | .ifCond _ o => len = 3 ∧ (pc : Int) + o = (x.1 : Int)
  | .if_icmp _ o => len = 3 ∧ (pc : Int) + o = (x.1 : Int)
  | .goto o => len = 3 ∧ (pc : Int) + o = (x.1 : Int)
  | .tableswitch _ _ _ _ => True
  | .lookupswitch _ ps => (ps.toList.zip (ps.toList.drop 1)).all (fun (a, next) => a.1 < next.1) = true
  | .getfield k => len = 3 ∧ am_fl C G M k x
  | .putfield k => len = 3 ∧ am_fl C G M k x ∧ ∃ q : vw_C, C.2.1[x.1]? = some q ∧ ((q.2.1 x.2.1).2.2.2 = false ∨ (q.2.1 x.2.1).2.2.2 = true ∧ M.1.name = "<init>" ∧ q.1 = M.1.cls)
  | .getstatic k => len = 3 ∧ Cond.fieldLink M.1.cls k "BindingServer$Tokens" "WORDS" "[J" ∈ G
  | .newarray _ => len = 2
  | .new k => len = 3 ∧ ∃ q : vw_C, C.2.1[x.1]? = some q ∧ Cond.classLink M.1.cls k q.1 ∈ G
  | .invokevirtual k => len = 3 ∧ x.1 ≠ 0 ∧ ∃ (N : am_M) (ci : Nat) (q : vw_C), C.1[x.1]? = some N ∧ x.2.2.2 = .ref ci ∧ C.2.1[ci]? = some q ∧ q.1 = N.1.cls ∧ Cond.methodLink M.1.cls k N.1 ∈ G ∧ Cond.instanceMethod N.1 ∈ G ∧ Cond.selects N.1.cls N.1 N.1 ∈ G ∧ am_pd N.1 x.2.1
  | .invokespecial k => len = 3 ∧ (x.1 = 1002 ∧ Cond.methodLink M.1.cls k objectInit ∈ G ∨ x.1 ≠ 1002 ∧ x.1 ≠ 0 ∧ ∃ N : am_M, C.1[x.1]? = some N ∧ Cond.methodLink M.1.cls k N.1 ∈ G ∧ Cond.instanceMethod N.1 ∈ G ∧ N.1.name = "<init>" ∧ N.2.2.2.1 = none ∧ am_pd N.1 x.2.1)
  | .invokestatic k => len = 3 ∧ (x.1 = 1000 ∧ Cond.methodLink M.1.cls k Lib.Math.max.name ∈ G ∨ x.1 = 1001 ∧ Cond.methodLink M.1.cls k arraycopyName ∈ G ∨ x.1 ≠ 1000 ∧ x.1 ≠ 1001 ∧ x.1 ≠ 0 ∧ ∃ N : am_M, C.1[x.1]? = some N ∧ Cond.methodLink M.1.cls k N.1 ∈ G ∧ Cond.static N.1 ∈ G ∧ am_pd N.1 x.2.1)
  | _ => len = 1
def am_ok (C : am_C) (G : List Cond) (M : am_M) (q : am_I) : Prop := decode M.2.1 q.1 = .ok (q.2.1, q.2.2.1) ∧ am_lo C G M q.1 q.2.1 q.2.2.1 q.2.2.2
def am_mc (G : List Cond) (M : am_M) : Prop := Cond.code M.1 M.2.1 M.2.2.1 M.2.2.2.1 ∈ G ∧ Cond.initialized M.1.cls ∈ G ∧ plainName M.1.cls = true ∧ (M.1.cls ≠ "java/lang/invoke/MethodHandle" ∧ M.1.cls ≠ "java/lang/invoke/VarHandle") ∧ M.2.2.1 ≤ 45
def am_co (C : am_C) (G : List Cond) (ci : Nat) (q : vw_C) : Prop := (∀ w ∈ u_ws q.1 q.2.1 q.2.2, w ∈ G) ∧ (∀ k, k < q.2.2 → parseFieldDescriptor (q.2.1 k).2.2.1 = some (C.2.2.1 ci k)) ∧ (∀ a, a < q.2.2 → ∀ b, b < q.2.2 → a ≠ b → (q.2.1 a).2.1 ≠ (q.2.1 b).2.1) ∧ Cond.instantiable q.1 q.2.2 ∈ G ∧ Cond.initialized q.1 ∈ G ∧ (∀ k, k < q.2.2 → (q.2.1 k).1 = q.1)
def am_go (G : List Cond) : Prop := (∀ w ∈ G, ((w.onTables && w.keeps) = true ∨ ∃ ty, w = .arrayClass ty)) ∧ Cond.instanceMethod objectInit ∈ G ∧ Cond.code objectInit ⟨#[0xb1]⟩ 1 none ∈ G ∧ Cond.static Lib.Math.max.name ∈ G ∧ Cond.initialized "java/lang/Math" ∈ G ∧ Cond.code Lib.Math.max.name Lib.Math.max.code 2 (some .int) ∈ G ∧ Cond.native arraycopyName ∈ G ∧ Cond.static arraycopyName ∈ G ∧ Cond.initialized "java/lang/System" ∈ G ∧ Cond.arrayClass .int ∈ G ∧ Cond.arrayClass .char ∈ G
def am_OK (C : am_C) (G : List Cond) : Prop := am_go G ∧ (∀ (ci : Nat) (q : vw_C), C.2.1[ci]? = some q → am_co C G ci q) ∧ ∀ (mi : Nat) (M : am_M), C.1[mi]? = some M → (∀ q ∈ M.2.2.2.2, am_ok C G M q) ∧ (mi ≠ 0 → am_mc G M)
theorem am_ix_mem {l : List am_I} {pc : Nat} {q : Instr × Nat × am_X} (h : am_ix l pc = some q) : (pc, q) ∈ l := by
  induction l with
  | nil => cases h
  | cons a r ih =>
    obtain ⟨j, w⟩ := a
    have h2 : (bif j == pc then some w else am_ix r pc) = some q := h
    clear h
    cases hq : (j == pc) with
    | true =>
      rw [hq, cond_true] at h2
      have e := eq_of_beq hq
      subst e
      cases h2
      exact List.mem_cons_self
    | false =>
      rw [hq, cond_false] at h2
      exact List.mem_cons_of_mem _ (ih h2)
theorem am_fi_ok (base b t : Nat) {ty : FieldType} {v : Value} (h : am_fi ty v = true) : narrow ty (am_tr base b t v) = am_tr base b t v ∧ fits ty (am_tr base b t v) = true := by
  cases ty with
  | int =>
    cases v with
    | int n => exact ⟨rfl, rfl⟩
    | _ => cases h
  | boolean =>
    cases v with
    | int n =>
      have h : (decide (n = 0) || decide (n = 1)) = true := h
      rw [Bool.or_eq_true, decide_eq_true_eq, decide_eq_true_eq] at h
      rcases h with rfl | rfl
      · exact ⟨(by decide +kernel : narrow .boolean (.int 0) = .int 0), (by decide +kernel : fits .boolean (.int 0) = true)⟩
      · exact ⟨(by decide +kernel : narrow .boolean (.int 1) = .int 1), (by decide +kernel : fits .boolean (.int 1) = true)⟩
    | _ => cases h
  | object n =>
    cases v with
    | ref a =>
      match a with
      | 0 => exact ⟨rfl, rfl⟩
      | 1 => exact ⟨rfl, rfl⟩
      | k + 2 => exact ⟨rfl, rfl⟩
    | _ => cases h
  | array n =>
    cases v with
    | ref a =>
      match a with
      | 0 => exact ⟨rfl, rfl⟩
      | 1 => exact ⟨rfl, rfl⟩
      | k + 2 => exact ⟨rfl, rfl⟩
    | _ => cases h
  | _ => cases h
theorem am_ob_at {h : List am_E} {a : Nat} {o : Nat × List Value} (e : am_ob h a = some o) : ∃ k, a = k + 2 ∧ h[k]? = some (.inr o) := by
  match a with
  | 0 => cases e
  | 1 => cases e
  | k + 2 =>
    refine ⟨k, rfl, ?_⟩
    have e : (match h[k]? with
      | some (.inr o) => some o
      | _ => none) = some o := e
    split at e
    next q hq => cases e; exact hq
    next => cases e
theorem am_ar_at {h : List am_E} {a : Nat} {o : Bool × List Int32} (e : am_ar h a = some o) : ∃ k, a = k + 2 ∧ h[k]? = some (.inl o) := by
  match a with
  | 0 => cases e
  | 1 => cases e
  | k + 2 =>
    refine ⟨k, rfl, ?_⟩
    have e : (match h[k]? with
      | some (.inl o) => some o
      | _ => none) = some o := e
    split at e
    next q hq => cases e; exact hq
    next => cases e
theorem am_to_eq {pc : Nat} {o : Int} {tgt : Nat} (h : am_to pc o = some tgt) : (pc : Int) + o = (tgt : Int) := by
  unfold am_to at h
  split at h
  next k hk => cases h; exact hk
  next => cases h
end
section
/-! What a step that went on must have seen. -/
theorem am_ii_inv {f : Int32 → Int32 → Option Int32} {pc : Nat} {lv : am_V} {st : List Value} {h : List am_E} {z : Nat × am_V × List Value × List am_E} (hdo : am_ii f pc lv st h = some z) : ∃ (x y v : Int32) (r : List Value), st = .int y :: .int x :: r ∧ f x y = some v ∧ z = (pc + 1, lv, .int v :: r, h) := by
  rcases st with _ | ⟨v0, r⟩
  · exact absurd hdo (by simp [am_ii])
  · cases v0 with
    | int y =>
      rcases r with _ | ⟨v1, r⟩
      · exact absurd hdo (by simp [am_ii])
      · cases v1 with
        | int x =>
          simp only [am_ii] at hdo
          cases hf : f x y with
          | none => rw [hf] at hdo; exact absurd hdo (by simp)
          | some v =>
            rw [hf] at hdo
            exact ⟨x, y, v, r, rfl, hf, (Option.some.inj hdo).symm⟩
        | _ => exact absurd hdo (by simp [am_ii])
    | _ => exact absurd hdo (by simp [am_ii])
theorem am_ll_inv {f : Int64 → Int64 → Value} {pc : Nat} {lv : am_V} {st : List Value} {h : List am_E} {z : Nat × am_V × List Value × List am_E} (hdo : am_ll f pc lv st h = some z) : ∃ (x y : Int64) (r : List Value), st = .long y :: .long x :: r ∧ z = (pc + 1, lv, f x y :: r, h) := by
  rcases st with _ | ⟨v0, r⟩
  · exact absurd hdo (by simp [am_ll])
  · cases v0 with
    | long y =>
      rcases r with _ | ⟨v1, r⟩
      · exact absurd hdo (by simp [am_ll])
      · cases v1 with
        | long x => exact ⟨x, y, r, rfl, (Option.some.inj hdo).symm⟩
        | _ => exact absurd hdo (by simp [am_ll])
    | _ => exact absurd hdo (by simp [am_ll])
theorem am_li_inv {f : Int64 → Int32 → Int64} {pc : Nat} {lv : am_V} {st : List Value} {h : List am_E} {z : Nat × am_V × List Value × List am_E} (hdo : am_li f pc lv st h = some z) : ∃ (x : Int64) (y : Int32) (r : List Value), st = .int y :: .long x :: r ∧ z = (pc + 1, lv, .long (f x y) :: r, h) := by
  rcases st with _ | ⟨v0, r⟩
  · exact absurd hdo (by simp [am_li])
  · cases v0 with
    | int y =>
      rcases r with _ | ⟨v1, r⟩
      · exact absurd hdo (by simp [am_li])
      · cases v1 with
        | long x => exact ⟨x, y, r, rfl, (Option.some.inj hdo).symm⟩
        | _ => exact absurd hdo (by simp [am_li])
    | _ => exact absurd hdo (by simp [am_li])
theorem am_ui_inv {f : Int32 → Value} {pc : Nat} {lv : am_V} {st : List Value} {h : List am_E} {z : Nat × am_V × List Value × List am_E} (hdo : am_ui f pc lv st h = some z) : ∃ (x : Int32) (r : List Value), st = .int x :: r ∧ z = (pc + 1, lv, f x :: r, h) := by
  rcases st with _ | ⟨v0, r⟩
  · exact absurd hdo (by simp [am_ui])
  · cases v0 with
    | int x => exact ⟨x, r, rfl, (Option.some.inj hdo).symm⟩
    | _ => exact absurd hdo (by simp [am_ui])
theorem am_ul_inv {f : Int64 → Value} {pc : Nat} {lv : am_V} {st : List Value} {h : List am_E} {z : Nat × am_V × List Value × List am_E} (hdo : am_ul f pc lv st h = some z) : ∃ (x : Int64) (r : List Value), st = .long x :: r ∧ z = (pc + 1, lv, f x :: r, h) := by
  rcases st with _ | ⟨v0, r⟩
  · exact absurd hdo (by simp [am_ul])
  · cases v0 with
    | long x => exact ⟨x, r, rfl, (Option.some.inj hdo).symm⟩
    | _ => exact absurd hdo (by simp [am_ul])
theorem am_li1_inv {lv : am_V} {i pc : Nat} {st : List Value} {h : List am_E} {z : Nat × am_V × List Value × List am_E} (hdo : am_li1 lv i pc st h = some z) : ∃ v : Int32, am_lk lv i = some (.int v) ∧ z = (pc, lv, .int v :: st, h) := by
  unfold am_li1 at hdo
  cases hv : am_lk lv i with
  | none => rw [hv] at hdo; exact absurd hdo (by simp)
  | some w =>
    rw [hv] at hdo
    cases w with
    | int v => exact ⟨v, rfl, (Option.some.inj hdo).symm⟩
    | _ => exact absurd hdo (by simp)
theorem am_ll1_inv {lv : am_V} {i pc : Nat} {st : List Value} {h : List am_E} {z : Nat × am_V × List Value × List am_E} (hdo : am_ll1 lv i pc st h = some z) : ∃ v : Int64, am_lk lv i = some (.long v) ∧ z = (pc, lv, .long v :: st, h) := by
  unfold am_ll1 at hdo
  cases hv : am_lk lv i with
  | none => rw [hv] at hdo; exact absurd hdo (by simp)
  | some w =>
    rw [hv] at hdo
    cases w with
    | long v => exact ⟨v, rfl, (Option.some.inj hdo).symm⟩
    | _ => exact absurd hdo (by simp)
theorem am_la1_inv {lv : am_V} {i pc : Nat} {st : List Value} {h : List am_E} {z : Nat × am_V × List Value × List am_E} (hdo : am_la1 lv i pc st h = some z) : ∃ v : Nat, am_lk lv i = some (.ref v) ∧ z = (pc, lv, .ref v :: st, h) := by
  unfold am_la1 at hdo
  cases hv : am_lk lv i with
  | none => rw [hv] at hdo; exact absurd hdo (by simp)
  | some w =>
    rw [hv] at hdo
    cases w with
    | ref v => exact ⟨v, rfl, (Option.some.inj hdo).symm⟩
    | _ => exact absurd hdo (by simp)
theorem am_inc_inv {lv : am_V} {i : Nat} {n : Int} {pc : Nat} {st : List Value} {h : List am_E} {z : Nat × am_V × List Value × List am_E} (hdo : am_inc lv i n pc st h = some z) : ∃ v : Int32, am_lk lv i = some (.int v) ∧ z = (pc + 3, am_s1 lv i (.int (v + Int32.ofInt n)), st, h) := by
  unfold am_inc at hdo
  cases hv : am_lk lv i with
  | none => rw [hv] at hdo; exact absurd hdo (by simp)
  | some w =>
    rw [hv] at hdo
    cases w with
    | int v => exact ⟨v, rfl, (Option.some.inj hdo).symm⟩
    | _ => exact absurd hdo (by simp)
theorem am_si1_inv {lv : am_V} {i pc : Nat} {st : List Value} {h : List am_E} {z : Nat × am_V × List Value × List am_E} (hdo : am_si1 lv i pc st h = some z) : ∃ (v : Int32) (r : List Value), st = .int v :: r ∧ z = (pc, am_s1 lv i (.int v), r, h) := by
  rcases st with _ | ⟨v0, r⟩
  · exact absurd hdo (by simp [am_si1])
  · cases v0 with
    | int x => exact ⟨x, r, rfl, (Option.some.inj hdo).symm⟩
    | _ => exact absurd hdo (by simp [am_si1])
theorem am_sl1_inv {lv : am_V} {i pc : Nat} {st : List Value} {h : List am_E} {z : Nat × am_V × List Value × List am_E} (hdo : am_sl1 lv i pc st h = some z) : ∃ (v : Int64) (r : List Value), st = .long v :: r ∧ z = (pc, am_s2 lv i (.long v), r, h) := by
  rcases st with _ | ⟨v0, r⟩
  · exact absurd hdo (by simp [am_sl1])
  · cases v0 with
    | long x => exact ⟨x, r, rfl, (Option.some.inj hdo).symm⟩
    | _ => exact absurd hdo (by simp [am_sl1])
theorem am_sa1_inv {lv : am_V} {i pc : Nat} {st : List Value} {h : List am_E} {z : Nat × am_V × List Value × List am_E} (hdo : am_sa1 lv i pc st h = some z) : ∃ (v : Nat) (r : List Value), st = .ref v :: r ∧ z = (pc, am_s1 lv i (.ref v), r, h) := by
  rcases st with _ | ⟨v0, r⟩
  · exact absurd hdo (by simp [am_sa1])
  · cases v0 with
    | ref x => exact ⟨x, r, rfl, (Option.some.inj hdo).symm⟩
    | _ => exact absurd hdo (by simp [am_sa1])
theorem am_b1_inv {c : ClassFile.Cond} {tgt pc : Nat} {lv : am_V} {st : List Value} {h : List am_E} {z : Nat × am_V × List Value × List am_E} (hdo : am_b1 c tgt pc lv st h = some z) : ∃ (x : Int32) (r : List Value), st = .int x :: r ∧ z = (bif am_if c x 0 then tgt else pc + 3, lv, r, h) := by
  rcases st with _ | ⟨v0, r⟩
  · exact absurd hdo (by simp [am_b1])
  · cases v0 with
    | int x => exact ⟨x, r, rfl, (Option.some.inj hdo).symm⟩
    | _ => exact absurd hdo (by simp [am_b1])
theorem am_b2_inv {c : ClassFile.Cond} {tgt pc : Nat} {lv : am_V} {st : List Value} {h : List am_E} {z : Nat × am_V × List Value × List am_E} (hdo : am_b2 c tgt pc lv st h = some z) : ∃ (x y : Int32) (r : List Value), st = .int y :: .int x :: r ∧ z = (bif am_if c x y then tgt else pc + 3, lv, r, h) := by
  rcases st with _ | ⟨v0, r⟩
  · exact absurd hdo (by simp [am_b2])
  · cases v0 with
    | int y =>
      rcases r with _ | ⟨v1, r⟩
      · exact absurd hdo (by simp [am_b2])
      · cases v1 with
        | int x => exact ⟨x, y, r, rfl, (Option.some.inj hdo).symm⟩
        | _ => exact absurd hdo (by simp [am_b2])
    | _ => exact absurd hdo (by simp [am_b2])
theorem am_sw_inv {f : Int32 → Option Nat} {lv : am_V} {st : List Value} {h : List am_E} {z : Nat × am_V × List Value × List am_E} (hdo : am_sw f lv st h = some z) : ∃ (x : Int32) (tgt : Nat) (r : List Value), st = .int x :: r ∧ f x = some tgt ∧ z = (tgt, lv, r, h) := by
  rcases st with _ | ⟨v0, r⟩
  · exact absurd hdo (by simp [am_sw])
  · cases v0 with
    | int x =>
      simp only [am_sw] at hdo
      cases hf : f x with
      | none => rw [hf] at hdo; exact absurd hdo (by simp)
      | some v =>
        rw [hf] at hdo
        exact ⟨x, v, r, rfl, hf, (Option.some.inj hdo).symm⟩
    | _ => exact absurd hdo (by simp [am_sw])
theorem am_dup_inv {pc : Nat} {lv : am_V} {st : List Value} {h : List am_E} {z : Nat × am_V × List Value × List am_E} (hdo : am_dup pc lv st h = some z) : ∃ (v : Value) (r : List Value), st = v :: r ∧ v.category = 1 ∧ z = (pc + 1, lv, v :: v :: r, h) := by
  rcases st with _ | ⟨v, r⟩
  · exact absurd hdo (by simp [am_dup])
  · simp only [am_dup] at hdo
    cases hc : (v.category == 1) with
    | false => rw [hc] at hdo; exact absurd hdo (by simp)
    | true =>
      rw [hc] at hdo
      exact ⟨v, r, rfl, eq_of_beq hc, (Option.some.inj hdo).symm⟩
theorem am_pop_inv {pc : Nat} {lv : am_V} {st : List Value} {h : List am_E} {z : Nat × am_V × List Value × List am_E} (hdo : am_pop pc lv st h = some z) : ∃ (v : Value) (r : List Value), st = v :: r ∧ v.category = 1 ∧ z = (pc + 1, lv, r, h) := by
  rcases st with _ | ⟨v, r⟩
  · exact absurd hdo (by simp [am_pop])
  · simp only [am_pop] at hdo
    cases hc : (v.category == 1) with
    | false => rw [hc] at hdo; exact absurd hdo (by simp)
    | true =>
      rw [hc] at hdo
      exact ⟨v, r, rfl, eq_of_beq hc, (Option.some.inj hdo).symm⟩
theorem am_get_inv {ci k pc : Nat} {lv : am_V} {st : List Value} {h : List am_E} {z : Nat × am_V × List Value × List am_E} (hdo : am_get ci k pc lv st h = some z) : ∃ (j : Nat) (r fs : List Value) (v : Value), st = .ref (j + 2) :: r ∧ h[j]? = some (.inr (ci, fs)) ∧ fs[k]? = some v ∧ z = (pc + 3, lv, v :: r, h) := by
  rcases st with _ | ⟨v0, r⟩
  · exact absurd hdo (by simp [am_get])
  · cases v0 with
    | ref a =>
      simp only [am_get] at hdo
      cases ho : am_ob h a with
      | none => rw [ho] at hdo; exact absurd hdo (by simp)
      | some o =>
        obtain ⟨j, rfl, hj⟩ := am_ob_at ho
        rw [ho] at hdo
        cases hc : (o.1 == ci) with
        | false => exact absurd hdo (by simp [hc])
        | true =>
          cases hv : o.2[k]? with
          | none => exact absurd hdo (by simp [hc, hv])
          | some v =>
            have hd2 : (some (pc + 3, lv, v :: r, h) : Option am_Z) = some z := by simpa only [hc, hv, cond_true] using hdo
            have e := eq_of_beq hc
            subst e
            exact ⟨j, r, o.2, v, rfl, hj, hv, (Option.some.inj hd2).symm⟩
    | _ => exact absurd hdo (by simp [am_get])
theorem am_put_inv {ty : FieldType} {ci k pc : Nat} {lv : am_V} {st : List Value} {h : List am_E} {z : Nat × am_V × List Value × List am_E} (hdo : am_put ty ci k pc lv st h = some z) : ∃ (j : Nat) (r fs : List Value) (v : Value), st = v :: .ref (j + 2) :: r ∧ h[j]? = some (.inr (ci, fs)) ∧ k < fs.length ∧ am_fi ty v = true ∧ z = (pc + 3, lv, r, h.set j (.inr (ci, fs.set k v))) := by
  rcases st with _ | ⟨v, r⟩
  · exact absurd hdo (by simp [am_put])
  · rcases r with _ | ⟨v0, r⟩
    · exact absurd hdo (by simp [am_put])
    · cases v0 with
      | ref a =>
        simp only [am_put] at hdo
        cases ho : am_ob h a with
        | none => rw [ho] at hdo; exact absurd hdo (by simp)
        | some o =>
          obtain ⟨j, rfl, hj⟩ := am_ob_at ho
          rw [ho] at hdo
          cases hc : (o.1 == ci && (decide (k < o.2.length) && am_fi ty v)) with
          | false =>
            have hdo : (bif (o.1 == ci && (decide (k < o.2.length) && am_fi ty v)) then (some (pc + 3, lv, r, h.set (j + 2 - 2) (.inr (ci, o.2.set k v))) : Option am_Z) else none) = some z := hdo
            rw [hc] at hdo
            exact absurd hdo (by simp)
          | true =>
            have hdo : (bif (o.1 == ci && (decide (k < o.2.length) && am_fi ty v)) then (some (pc + 3, lv, r, h.set (j + 2 - 2) (.inr (ci, o.2.set k v))) : Option am_Z) else none) = some z := hdo
            rw [hc] at hdo
            rw [Bool.and_eq_true, Bool.and_eq_true, decide_eq_true_eq] at hc
            have e := eq_of_beq hc.1
            subst e
            exact ⟨j, r, o.2, v, rfl, hj, hc.2.1, hc.2.2, (Option.some.inj hdo).symm⟩
      | _ => exact absurd hdo (by simp [am_put])
theorem am_ld_inv {tg : Bool} {xs : Option (List Int32)} {pc : Nat} {lv : am_V} {st : List Value} {h : List am_E} {z : Nat × am_V × List Value × List am_E} (hdo : am_ld tg xs pc lv st h = some z) : ∃ (i : Int32) (r : List Value) (v : Int32), ¬ i < 0 ∧ z = (pc + 1, lv, .int v :: r, h) ∧ ((st = .int i :: .ref 0 :: r ∧ tg = false ∧ (xs.getD [])[i.toNatClampNeg]? = some v) ∨ ∃ (j : Nat) (a : List Int32), st = .int i :: .ref (j + 2) :: r ∧ h[j]? = some (.inl (tg, a)) ∧ a[i.toNatClampNeg]? = some v) := by
  rcases st with _ | ⟨v0, r⟩
  · exact absurd hdo (by simp [am_ld])
  · cases v0 with
    | int i =>
      rcases r with _ | ⟨v1, r⟩
      · exact absurd hdo (by simp [am_ld])
      · cases v1 with
        | ref a =>
          cases hi : decide (i < 0) with
          | true => exact absurd hdo (by simp [am_ld, of_decide_eq_true hi])
          | false =>
            have hi' : ¬ i < 0 := of_decide_eq_false hi
            match a, hdo with
            | 0, hdo =>
              cases tg with
              | true => exact absurd hdo (by simp [am_ld])
              | false =>
                cases xs with
                | none => exact absurd hdo (by simp [am_ld])
                | some l0 =>
                  cases hv : l0[i.toNatClampNeg]? with
                  | none => exact absurd hdo (by simp [am_ld, hv])
                  | some v =>
                    have hdo : (some (pc + 1, lv, Value.int v :: r, h) : Option am_Z) = some z := by simpa [am_ld, hv, hi'] using hdo
                    exact ⟨i, r, v, hi', (Option.some.inj hdo).symm, Or.inl ⟨rfl, rfl, hv⟩⟩
            | 1, hdo => exact absurd hdo (by simp [am_ld, am_ar])
            | j + 2, hdo =>
              cases ho : am_ar h (j + 2) with
              | none => exact absurd hdo (by simp [am_ld, ho])
              | some o =>
                obtain ⟨j', e', hj⟩ := am_ar_at ho
                obtain rfl : j = j' := Nat.add_right_cancel e'
                cases hc : (o.1 == tg) with
                | false => exact absurd hdo (by simp [am_ld, ho, hc])
                | true =>
                  cases hv : o.2[i.toNatClampNeg]? with
                  | none => exact absurd hdo (by simp [am_ld, ho, hc, hv])
                  | some v =>
                    have hd2 : (some (pc + 1, lv, Value.int v :: r, h) : Option am_Z) = some z := by simpa [am_ld, ho, hc, hv, hi'] using hdo
                    have e := eq_of_beq hc
                    subst e
                    exact ⟨i, r, v, hi', (Option.some.inj hd2).symm, Or.inr ⟨j, o.2, rfl, hj, hv⟩⟩
        | _ => exact absurd hdo (by simp [am_ld])
    | _ => exact absurd hdo (by simp [am_ld])
theorem am_lld_inv {wd : List Int64} {pc : Nat} {lv : am_V} {st : List Value} {h : List am_E} {z : Nat × am_V × List Value × List am_E} (hdo : am_lld wd pc lv st h = some z) : ∃ (i : Int32) (r : List Value) (v : Int64), ¬ i < 0 ∧ z = (pc + 1, lv, .long v :: r, h) ∧ st = .int i :: .ref 1 :: r ∧ wd[i.toNatClampNeg]? = some v := by
  rcases st with _ | ⟨v0, r⟩
  · exact absurd hdo (by simp [am_lld])
  · cases v0 with
    | int i =>
      rcases r with _ | ⟨v1, r⟩
      · exact absurd hdo (by simp [am_lld])
      · cases v1 with
        | ref a =>
          cases hi : decide (i < 0) with
          | true =>
            match a, hdo with
            | 0, hdo => exact absurd hdo (by simp [am_lld])
            | 1, hdo => exact absurd hdo (by simp [am_lld, of_decide_eq_true hi])
            | j + 2, hdo => exact absurd hdo (by simp [am_lld])
          | false =>
            have hi' : ¬ i < 0 := of_decide_eq_false hi
            match a, hdo with
            | 0, hdo => exact absurd hdo (by simp [am_lld])
            | 1, hdo =>
              cases hv : wd[i.toNatClampNeg]? with
              | none => exact absurd hdo (by simp [am_lld, hv])
              | some v =>
                have hdo : (some (pc + 1, lv, Value.long v :: r, h) : Option am_Z) = some z := by simpa [am_lld, hv, hi'] using hdo
                exact ⟨i, r, v, hi', (Option.some.inj hdo).symm, rfl, hv⟩
            | j + 2, hdo => exact absurd hdo (by simp [am_lld])
        | _ => exact absurd hdo (by simp [am_lld])
    | _ => exact absurd hdo (by simp [am_lld])
theorem am_sto_inv {tg : Bool} {pc : Nat} {lv : am_V} {st : List Value} {h : List am_E} {z : Nat × am_V × List Value × List am_E} (hdo : am_sto tg pc lv st h = some z) : ∃ (i v : Int32) (r : List Value) (j : Nat) (a : List Int32), ¬ i < 0 ∧ st = .int v :: .int i :: .ref (j + 2) :: r ∧ h[j]? = some (.inl (tg, a)) ∧ i.toNatClampNeg < a.length ∧ z = (pc + 1, lv, r, h.set j (.inl (tg, a.set i.toNatClampNeg (bif tg then vp_nar .char v else v)))) := by
  rcases st with _ | ⟨v0, r⟩
  · exact absurd hdo (by simp [am_sto])
  · cases v0 with
    | int v =>
      rcases r with _ | ⟨v1, r⟩
      · exact absurd hdo (by simp [am_sto])
      · cases v1 with
        | int i =>
          rcases r with _ | ⟨v2, r⟩
          · exact absurd hdo (by simp [am_sto])
          · cases v2 with
            | ref a =>
              simp only [am_sto] at hdo
              cases ho : am_ar h a with
              | none => rw [ho] at hdo; exact absurd hdo (by simp)
              | some o =>
                obtain ⟨j, rfl, hj⟩ := am_ar_at ho
                rw [ho] at hdo
                have hdo : (bif o.1 == tg && (!decide (i < 0) && decide (i.toNatClampNeg < o.2.length)) then (some (pc + 1, lv, r, h.set (j + 2 - 2) (.inl (tg, o.2.set i.toNatClampNeg (bif tg then vp_nar .char v else v)))) : Option am_Z) else none) = some z := hdo
                cases hc : (o.1 == tg && (!decide (i < 0) && decide (i.toNatClampNeg < o.2.length))) with
                | false => rw [hc] at hdo; exact absurd hdo (by simp)
                | true =>
                  rw [hc] at hdo
                  rw [Bool.and_eq_true, Bool.and_eq_true, decide_eq_true_eq, Bool.not_eq_true', decide_eq_false_iff_not] at hc
                  have e := eq_of_beq hc.1
                  subst e
                  exact ⟨i, v, r, j, o.2, hc.2.1, rfl, hj, hc.2.2, (Option.some.inj hdo).symm⟩
            | _ => exact absurd hdo (by simp [am_sto])
        | _ => exact absurd hdo (by simp [am_sto])
    | _ => exact absurd hdo (by simp [am_sto])
theorem am_len_inv {xs : Option (List Int32)} {wd : List Int64} {pc : Nat} {lv : am_V} {st : List Value} {h : List am_E} {z : Nat × am_V × List Value × List am_E} (hdo : am_len xs wd pc lv st h = some z) : ∃ (r : List Value) (v : Int32), z = (pc + 1, lv, .int v :: r, h) ∧ ((st = .ref 0 :: r ∧ v = Int32.ofNat (xs.getD []).length) ∨ (st = .ref 1 :: r ∧ v = Int32.ofNat wd.length) ∨ ∃ (j : Nat) (o : Bool × List Int32), st = .ref (j + 2) :: r ∧ h[j]? = some (.inl o) ∧ v = Int32.ofNat o.2.length) := by
  rcases st with _ | ⟨v0, r⟩
  · exact absurd hdo (by simp [am_len])
  · cases v0 with
    | ref a =>
      match a, hdo with
      | 0, hdo =>
        cases xs with
        | none => exact absurd hdo (by simp [am_len])
        | some l0 => exact ⟨r, _, (Option.some.inj hdo).symm, Or.inl ⟨rfl, rfl⟩⟩
      | 1, hdo => exact ⟨r, _, (Option.some.inj hdo).symm, Or.inr (Or.inl ⟨rfl, rfl⟩)⟩
      | j + 2, hdo =>
        cases ho : am_ar h (j + 2) with
        | none => exact absurd hdo (by simp [am_len, ho])
        | some o =>
          obtain ⟨j', e', hj⟩ := am_ar_at ho
          obtain rfl : j = j' := Nat.add_right_cancel e'
          have hdo : (some (pc + 1, lv, Value.int (Int32.ofNat o.2.length) :: r, h) : Option am_Z) = some z := by simpa [am_len, ho] using hdo
          exact ⟨r, _, (Option.some.inj hdo).symm, Or.inr (Or.inr ⟨j, o, rfl, hj, rfl⟩)⟩
    | _ => exact absurd hdo (by simp [am_len])
theorem am_max_inv {d pc : Nat} {lv : am_V} {st : List Value} {h : List am_E} {z : Nat × am_V × List Value × List am_E} (hdo : am_max d pc lv st h = some z) : ∃ (x y : Int32) (r : List Value), st = .int y :: .int x :: r ∧ 1 ≤ d ∧ am_ca r ≤ 8 ∧ z = (pc + 3, lv, .int (if x < y then y else x) :: r, h) := by
  rcases st with _ | ⟨v0, r⟩
  · exact absurd hdo (by simp [am_max])
  · cases v0 with
    | int y =>
      rcases r with _ | ⟨v1, r⟩
      · exact absurd hdo (by simp [am_max])
      · cases v1 with
        | int x =>
          simp only [am_max] at hdo
          cases hc : (decide (1 ≤ d) && decide (am_ca r ≤ 8)) with
          | false => rw [hc] at hdo; exact absurd hdo (by simp)
          | true =>
            rw [hc] at hdo
            rw [Bool.and_eq_true, decide_eq_true_eq, decide_eq_true_eq] at hc
            exact ⟨x, y, r, rfl, hc.1, hc.2, (Option.some.inj hdo).symm⟩
        | _ => exact absurd hdo (by simp [am_max])
    | _ => exact absurd hdo (by simp [am_max])
theorem am_oi_inv {d pc : Nat} {lv : am_V} {st : List Value} {h : List am_E} {z : Nat × am_V × List Value × List am_E} (hdo : am_oi d pc lv st h = some z) : ∃ (a : Nat) (r : List Value), st = .ref a :: r ∧ 1 ≤ d ∧ am_ca r ≤ 8 ∧ z = (pc + 3, lv, r, h) := by
  rcases st with _ | ⟨v0, r⟩
  · exact absurd hdo (by simp [am_oi])
  · cases v0 with
    | ref a =>
      simp only [am_oi] at hdo
      cases hc : (decide (1 ≤ d) && decide (am_ca r ≤ 8)) with
      | false => rw [hc] at hdo; exact absurd hdo (by simp)
      | true =>
        rw [hc] at hdo
        rw [Bool.and_eq_true, decide_eq_true_eq, decide_eq_true_eq] at hc
        exact ⟨a, r, rfl, hc.1, hc.2, (Option.some.inj hdo).symm⟩
    | _ => exact absurd hdo (by simp [am_oi])
def am_acc (d : Nat) (r : List Value) (o q : Bool × List Int32) (sp dp n : Int32) : Bool := (o.1 && q.1) && ((decide (1 ≤ d) && decide (am_ca r ≤ 8)) && ((!decide (sp < 0) && (!decide (dp < 0) && !decide (n < 0))) && ((decide (sp.toNatClampNeg + n.toNatClampNeg ≤ q.2.length) && decide (dp.toNatClampNeg + n.toNatClampNeg ≤ o.2.length)) && ((q.2.drop sp.toNatClampNeg).take n.toNatClampNeg).all (fun z => fits .char (.int z)))))
theorem am_acp_inv {d pc : Nat} {lv : am_V} {st : List Value} {h : List am_E} {z : Nat × am_V × List Value × List am_E} (hdo : am_acp d pc lv st h = some z) : ∃ (n dp sp : Int32) (j k : Nat) (o q : Bool × List Int32) (r : List Value), st = .int n :: .int dp :: .ref (j + 2) :: .int sp :: .ref (k + 2) :: r ∧ h[j]? = some (.inl o) ∧ h[k]? = some (.inl q) ∧ am_acc d r o q sp dp n = true ∧ z = (pc + 3, lv, r, h.set j (.inl (true, am_cp q.2 o.2 sp.toNatClampNeg dp.toNatClampNeg n.toNatClampNeg))) := by
  rcases st with _ | ⟨v0, r⟩
  · exact absurd hdo (by simp [am_acp])
  cases v0 with
  | int n =>
    rcases r with _ | ⟨v1, r⟩
    · exact absurd hdo (by simp [am_acp])
    cases v1 with
    | int dp =>
      rcases r with _ | ⟨v2, r⟩
      · exact absurd hdo (by simp [am_acp])
      cases v2 with
      | ref a =>
        rcases r with _ | ⟨v3, r⟩
        · exact absurd hdo (by simp [am_acp])
        cases v3 with
        | int sp =>
          rcases r with _ | ⟨v4, r⟩
          · exact absurd hdo (by simp [am_acp])
          cases v4 with
          | ref bb =>
            simp only [am_acp] at hdo
            cases ho : am_ar h a with
            | none => rw [ho] at hdo; exact absurd hdo (by simp)
            | some o =>
              cases hq : am_ar h bb with
              | none => rw [ho, hq] at hdo; exact absurd hdo (by simp)
              | some q =>
                rw [ho, hq] at hdo
                obtain ⟨j, rfl, hj⟩ := am_ar_at ho
                obtain ⟨k, rfl, hk⟩ := am_ar_at hq
                have hdo : (bif am_acc d r o q sp dp n then (some (pc + 3, lv, r, h.set (j + 2 - 2) (.inl (true, am_cp q.2 o.2 sp.toNatClampNeg dp.toNatClampNeg n.toNatClampNeg))) : Option am_Z) else none) = some z := hdo
                cases hc : am_acc d r o q sp dp n with
                | false => rw [hc] at hdo; exact absurd hdo (by simp)
                | true =>
                  rw [hc] at hdo
                  exact ⟨n, dp, sp, j, k, o, q, r, rfl, hj, hk, hc, (Option.some.inj hdo).symm⟩
          | _ => exact absurd hdo (by simp [am_acp])
        | _ => exact absurd hdo (by simp [am_acp])
      | _ => exact absurd hdo (by simp [am_acp])
    | _ => exact absurd hdo (by simp [am_acp])
  | _ => exact absurd hdo (by simp [am_acp])
theorem am_cal_inv {C : am_C} {cal : Nat} {vs rest : List Value} {z : Nat × List Value × List Value} (hdo : am_cal C cal vs rest = some z) : ∃ N : am_M, C.1[cal]? = some N ∧ (lg_sl vs).length ≤ N.2.2.1 ∧ am_ca rest ≤ 8 ∧ z = (cal, vs, rest) := by
  unfold am_cal at hdo
  cases hN : C.1[cal]? with
  | none => rw [hN] at hdo; exact absurd hdo (by simp)
  | some N =>
    rw [hN] at hdo
    have hdo : (bif decide ((lg_sl vs).length ≤ N.2.2.1) && decide (am_ca rest ≤ 8) then some (cal, vs, rest) else none) = some z := hdo
    cases hc : (decide ((lg_sl vs).length ≤ N.2.2.1) && decide (am_ca rest ≤ 8)) with
    | false => rw [hc] at hdo; exact absurd hdo (by simp)
    | true =>
      rw [hc] at hdo
      rw [Bool.and_eq_true, decide_eq_true_eq, decide_eq_true_eq] at hc
      exact ⟨N, rfl, hc.1, hc.2, (Option.some.inj hdo).symm⟩
theorem am_cv_inv {C : am_C} {cal n ci : Nat} {st : List Value} {h : List am_E} {z : Nat × List Value × List Value} (hdo : am_cv C cal n ci st h = some z) : ∃ (j : Nat) (fs r : List Value) (N : am_M), st = (st.take n) ++ .ref (j + 2) :: r ∧ (st.take n).length = n ∧ h[j]? = some (.inr (ci, fs)) ∧ C.1[cal]? = some N ∧ (lg_sl (.ref (j + 2) :: (st.take n).reverse)).length ≤ N.2.2.1 ∧ am_ca r ≤ 8 ∧ z = (cal, .ref (j + 2) :: (st.take n).reverse, r) := by
  unfold am_cv at hdo
  cases hd : st.drop n with
  | nil => rw [hd] at hdo; exact absurd hdo (by simp)
  | cons v r =>
    rw [hd] at hdo
    have hlen : (st.take n).length = n := by
      have h1 : 0 < (st.drop n).length := by rw [hd]; exact Nat.zero_lt_succ _
      rw [List.length_drop] at h1
      rw [List.length_take]
      omega
    have hst : st = st.take n ++ (v :: r) := by rw [← hd]; exact (List.take_append_drop n st).symm
    cases v with
    | ref a =>
      simp only at hdo
      cases ho : am_ob h a with
      | none => rw [ho] at hdo; exact absurd hdo (by simp)
      | some o =>
        obtain ⟨j, rfl, hj⟩ := am_ob_at ho
        rw [ho] at hdo
        have hd2 : (bif o.1 == ci then am_cal C cal (.ref (j + 2) :: (st.take n).reverse) r else none) = some z := hdo
        cases hc : (o.1 == ci) with
        | false => rw [hc] at hd2; exact absurd hd2 (by simp)
        | true =>
          rw [hc, cond_true] at hd2
          have e := eq_of_beq hc
          subst e
          obtain ⟨N, h1, h2, h3, h4⟩ := am_cal_inv hd2
          exact ⟨j, o.2, r, N, hst, hlen, hj, h1, h2, h3, h4⟩
    | _ => exact absurd hdo (by simp)
theorem am_ci_inv {C : am_C} {cal n : Nat} {st : List Value} {z : Nat × List Value × List Value} (hdo : am_ci C cal n st = some z) : ∃ (a : Nat) (r : List Value) (N : am_M), st = (st.take n) ++ .ref a :: r ∧ (st.take n).length = n ∧ C.1[cal]? = some N ∧ (lg_sl (.ref a :: (st.take n).reverse)).length ≤ N.2.2.1 ∧ am_ca r ≤ 8 ∧ z = (cal, .ref a :: (st.take n).reverse, r) := by
  unfold am_ci at hdo
  cases hd : st.drop n with
  | nil => rw [hd] at hdo; exact absurd hdo (by simp)
  | cons v r =>
    rw [hd] at hdo
    have hlen : (st.take n).length = n := by
      have h1 : 0 < (st.drop n).length := by rw [hd]; exact Nat.zero_lt_succ _
      rw [List.length_drop] at h1
      rw [List.length_take]
      omega
    have hst : st = st.take n ++ (v :: r) := by rw [← hd]; exact (List.take_append_drop n st).symm
    cases v with
    | ref a =>
      obtain ⟨N, h1, h2, h3, h4⟩ := am_cal_inv hdo
      exact ⟨a, r, N, hst, hlen, h1, h2, h3, h4⟩
    | _ => exact absurd hdo (by simp)
theorem am_cs_inv {C : am_C} {cal n : Nat} {st : List Value} {z : Nat × List Value × List Value} (hdo : am_cs C cal n st = some z) : ∃ N : am_M, (st.take n).length = n ∧ C.1[cal]? = some N ∧ (lg_sl (st.take n).reverse).length ≤ N.2.2.1 ∧ am_ca (st.drop n) ≤ 8 ∧ z = (cal, (st.take n).reverse, st.drop n) := by
  unfold am_cs at hdo
  cases hc : decide (n ≤ st.length) with
  | false => rw [hc] at hdo; exact absurd hdo (by simp)
  | true =>
    rw [hc, cond_true] at hdo
    obtain ⟨N, h1, h2, h3, h4⟩ := am_cal_inv hdo
    exact ⟨N, by rw [List.length_take]; have := of_decide_eq_true hc; omega, h1, h2, h3, h4⟩
theorem am_na_inv {ty : ArrayType} {pc : Nat} {st : List Value} {z : Nat × List Value × am_E × Nat} (hdo : am_na ty pc st = some z) : ∃ (n : Int32) (r : List Value) (tg : Bool), st = .int n :: r ∧ ¬ n < 0 ∧ n.toNatClampNeg ≤ 100000 ∧ ((ty = .int ∧ tg = false) ∨ (ty = .char ∧ tg = true)) ∧ z = (pc + 2, r, .inl (tg, List.replicate n.toNatClampNeg 0), n.toNatClampNeg) := by
  rcases st with _ | ⟨v0, r⟩
  · exact absurd hdo (by simp [am_na])
  · cases v0 with
    | int n =>
      simp only [am_na] at hdo
      cases hc : (!decide (n < 0) && decide (n.toNatClampNeg ≤ 100000)) with
      | false => rw [hc] at hdo; exact absurd hdo (by simp)
      | true =>
        rw [hc, cond_true] at hdo
        rw [Bool.and_eq_true, decide_eq_true_eq, Bool.not_eq_true', decide_eq_false_iff_not] at hc
        cases ty with
        | int => exact ⟨n, r, false, rfl, hc.1, hc.2, Or.inl ⟨rfl, rfl⟩, (Option.some.inj hdo).symm⟩
        | char => exact ⟨n, r, true, rfl, hc.1, hc.2, Or.inr ⟨rfl, rfl⟩, (Option.some.inj hdo).symm⟩
        | _ => exact absurd hdo (by simp)
    | _ => exact absurd hdo (by simp [am_na])
end
section
section AMS
variable {C : am_C} {G : List Cond} {D : va_G} {cI cC : ClassId} {base b t : Nat} {p : Program} {l : Launch} {e : Env} {R : Room} {s : State} {m : MethodId} {args : Array Value} {below : List Frame} {meth : Method} {c : Code} {M : am_M} {H : Heap} {locs : List Loc} {cells slots : Nat} {Q : State → Prop} {pc : Nat} {ls : Array Slot} {lv : am_V} {st : List Value} {h : List am_E} {z : am_Z}
theorem am_pget {k0 : Nat} {x : am_X} (O : am_OK C G) (F : am_F C G D cI cC base b t p s m args meth c M) (I : am_N C D cI cC base b t s cells h H locs) (hl : lv_has ls M.2.2.1 (am_lm base b t lv)) (hdec : decode M.2.1 pc = .ok (.getfield k0, 3)) (hfl : am_fl C G M k0 x) (hdo : am_get x.1 x.2.1 pc lv st h = some z)
    (k : ∀ (ls1 : Array Slot) (H1 : Heap) (locs1 : List Loc), am_N C D cI cC base b t s cells z.2.2.2 H1 locs1 → lv_has ls1 M.2.2.1 (am_lm base b t z.2.1) → W p l e R s m args below meth c H1 locs1 cells slots Q (F0 m z.1 ls1 (z.2.2.1.map (am_tr base b t)))) : W p l e R s m args below meth c H locs cells slots Q (F0 m pc ls (st.map (am_tr base b t))) := by
  obtain ⟨hx, hb, hml, hown, hts, hr, hlk, hnm, hK, hO, hbs⟩ := F
  obtain ⟨q, hq, hk, hlink⟩ := hfl
  have hco := O.2.1 _ _ hq
  obtain ⟨j, r, fs, v, rfl, hj, hv, rfl⟩ := am_get_inv hdo
  refine va_get (D := D) (cl := C.2.1) (C := q.1) (T := q.2.1) (N := q.2.2) (ci := x.1) (a := base + j) (v := am_tr base b t v) (fs := fs.map (am_tr base b t)) hx hb hts hco.1 hown hK I.1 j (am_w_at hj) hq x.2.1 hk (hts _ hlink) (fun y hy => by rw [← hco.2.2.2.2.2 _ hk]; exact hy) (by rw [List.getElem?_map, hv]; rfl) hdec (k ls H locs I hl)
theorem am_pput {k0 : Nat} {x : am_X} (O : am_OK C G) (F : am_F C G D cI cC base b t p s m args meth c M) (I : am_N C D cI cC base b t s cells h H locs) (hl : lv_has ls M.2.2.1 (am_lm base b t lv)) (hdec : decode M.2.1 pc = .ok (.putfield k0, 3)) (hfl : am_fl C G M k0 x) (hfi : ∃ q : vw_C, C.2.1[x.1]? = some q ∧ ((q.2.1 x.2.1).2.2.2 = false ∨ (q.2.1 x.2.1).2.2.2 = true ∧ M.1.name = "<init>" ∧ q.1 = M.1.cls)) (hdo : am_put (C.2.2.1 x.1 x.2.1) x.1 x.2.1 pc lv st h = some z)
    (k : ∀ (ls1 : Array Slot) (H1 : Heap) (locs1 : List Loc), am_N C D cI cC base b t s cells z.2.2.2 H1 locs1 → lv_has ls1 M.2.2.1 (am_lm base b t z.2.1) → W p l e R s m args below meth c H1 locs1 cells slots Q (F0 m z.1 ls1 (z.2.2.1.map (am_tr base b t)))) : W p l e R s m args below meth c H locs cells slots Q (F0 m pc ls (st.map (am_tr base b t))) := by
  obtain ⟨hx, hb, hml, hown, hts, hr, hlk, hnm, hK, hO, hbs⟩ := F
  obtain ⟨q, hq, hk, hlink⟩ := hfl
  obtain ⟨q', hq', hfin⟩ := hfi
  cases hq.symm.trans hq'
  have hco := O.2.1 _ _ hq
  obtain ⟨j, r, fs, v, rfl, hj, hkl, hty, rfl⟩ := am_put_inv hdo
  have hfit := am_fi_ok base b t hty
  have hgo : ∀ (H1 : Heap) (locs1 : List Loc), va_P D C.2.1 ((am_w base b t cI cC h).set j (base + j, .inr (x.1, (fs.map (am_tr base b t)).set x.2.1 (am_tr base b t v)))) H1 → va_D (am_A base) ((am_w base b t cI cC h).set j (base + j, .inr (x.1, (fs.map (am_tr base b t)).set x.2.1 (am_tr base b t v)))) → va_S (am_A base) s.heap H1 locs1 → W p l e R s m args below meth c H1 locs1 cells slots Q (F0 m (pc + 3) ls (r.map (am_tr base b t))) := by
    intro H1 locs1 hP1 _ hS1
    refine k ls H1 locs1 ⟨?_, ?_, hS1⟩ hl
    · rw [am_w_set]
      have e : am_e base b t cI cC (.inr (x.1, fs.set x.2.1 v)) = .inr (x.1, (fs.map (am_tr base b t)).set x.2.1 (am_tr base b t v)) := by
        show (Sum.inr (x.1, (fs.set x.2.1 v).map (am_tr base b t)) : va_E) = _
        rw [List.map_set]
      rw [e]
      exact hP1
    · rw [List.length_set]
      exact I.2.1
  rcases hfin with hf | ⟨hf, hin, hcl⟩
  · exact va_put (D := D) (cl := C.2.1) (C := q.1) (T := q.2.1) (N := q.2.2) (ci := x.1) (a := base + j) (v := am_tr base b t v) (fs := fs.map (am_tr base b t)) hx hb hts hco.1 (C.2.2.1 x.1) hco.2.1 hco.2.2.1 hown hK I.1 (am_w_D base b t cI cC h) I.2.2 j (am_w_at hj) hq x.2.1 hk (hts _ hlink) (fun y hy => by rw [← hco.2.2.2.2.2 _ hk]; exact hy) hf (hco.2.1 _ hk) hfit.1 hfit.2 (by rw [List.length_map]; exact hkl) hdec hgo
  · exact va_putF (D := D) (cl := C.2.1) (C := q.1) (T := q.2.1) (N := q.2.2) (ci := x.1) (a := base + j) (v := am_tr base b t v) (fs := fs.map (am_tr base b t)) hx hb hts hco.1 (C.2.2.1 x.1) hco.2.1 hco.2.2.1 hown hK I.1 (am_w_D base b t cI cC h) I.2.2 j (am_w_at hj) hq x.2.1 hk (hts _ hlink) (fun y hy => by rw [← hco.2.2.2.2.2 _ hk]; exact hy) hf (hnm hin) ((hco.2.2.2.2.2 _ hk).trans hcl) (hco.2.1 _ hk) hfit.1 hfit.2 (by rw [List.length_map]; exact hkl) hdec hgo
theorem am_in_of {i : Int32} {n : Nat} (h0 : ¬ i < 0) (h : i.toNatClampNeg < n) : vp_in i n := fun q => by
  rcases q with q | q
  · exact h0 q
  · exact Nat.not_le.mpr h q
theorem am_lt_of {α : Type} {a : List α} {i : Nat} {v : α} (h : a[i]? = some v) : i < a.length := (List.getElem?_eq_some_iff.mp h).1
theorem am_getD_of {a : List Int32} {i : Nat} {v : Int32} (h : a[i]? = some v) : a.getD i 0 = v := by rw [List.getD_eq_getElem?_getD, h]; rfl
theorem am_pildi (O : am_OK C G) (F : am_F C G D cI cC base b t p s m args meth c M) (I : am_N C D cI cC base b t s cells h H locs) (hl : lv_has ls M.2.2.1 (am_lm base b t lv)) (hdec : decode M.2.1 pc = .ok (.iaload, 1)) (hdo : am_ld false C.2.2.2.1 pc lv st h = some z)
    (k : ∀ (ls1 : Array Slot) (H1 : Heap) (locs1 : List Loc), am_N C D cI cC base b t s cells z.2.2.2 H1 locs1 → lv_has ls1 M.2.2.1 (am_lm base b t z.2.1) → W p l e R s m args below meth c H1 locs1 cells slots Q (F0 m z.1 ls1 (z.2.2.1.map (am_tr base b t)))) : W p l e R s m args below meth c H locs cells slots Q (F0 m pc ls (st.map (am_tr base b t))) := by
  obtain ⟨hx, hb, hml, hown, hts, hr, hlk, hnm, hK, hO, hbs⟩ := F
  obtain ⟨i, r, v, h0, rfl, hc⟩ := am_ld_inv hdo
  rcases hc with ⟨rfl, -, hv⟩ | ⟨j, a, rfl, hj, hv⟩
  · have K := k ls H locs I hl
    rw [← am_getD_of hv] at K
    exact va_sld hx hb hO.1 (Nat.lt_of_lt_of_le hO.2.1 hbs) (Nat.not_le.mpr hO.2.1) I.2.2 (am_in_of h0 (am_lt_of hv)) hdec K
  · have K := k ls H locs I hl
    rw [← am_getD_of hv] at K
    exact va_iald (D := D) (cl := C.2.1) (a := base + j) (f := fun j => a.getD j 0) (cA := cI) (n := a.length) hx hb hK I.1 j 0 (am_w_at hj) rfl (am_in_of h0 (am_lt_of hv)) hdec K
theorem am_pildc (O : am_OK C G) (F : am_F C G D cI cC base b t p s m args meth c M) (I : am_N C D cI cC base b t s cells h H locs) (hl : lv_has ls M.2.2.1 (am_lm base b t lv)) (hdec : decode M.2.1 pc = .ok (.caload, 1)) (hdo : am_ld true C.2.2.2.1 pc lv st h = some z)
    (k : ∀ (ls1 : Array Slot) (H1 : Heap) (locs1 : List Loc), am_N C D cI cC base b t s cells z.2.2.2 H1 locs1 → lv_has ls1 M.2.2.1 (am_lm base b t z.2.1) → W p l e R s m args below meth c H1 locs1 cells slots Q (F0 m z.1 ls1 (z.2.2.1.map (am_tr base b t)))) : W p l e R s m args below meth c H locs cells slots Q (F0 m pc ls (st.map (am_tr base b t))) := by
  obtain ⟨hx, hb, hml, hown, hts, hr, hlk, hnm, hK, hO, hbs⟩ := F
  obtain ⟨i, r, v, h0, rfl, hc⟩ := am_ld_inv hdo
  rcases hc with ⟨-, hff, -⟩ | ⟨j, a, rfl, hj, hv⟩
  · cases hff
  · have K := k ls H locs I hl
    rw [← am_getD_of hv] at K
    exact va_cald (D := D) (cl := C.2.1) (a := base + j) (f := fun j => a.getD j 0) (cA := cC) (n := a.length) hx hb hK I.1 j 1 (am_w_at hj) rfl (am_in_of h0 (am_lt_of hv)) hdec K
theorem am_plld (O : am_OK C G) (F : am_F C G D cI cC base b t p s m args meth c M) (I : am_N C D cI cC base b t s cells h H locs) (hl : lv_has ls M.2.2.1 (am_lm base b t lv)) (hdec : decode M.2.1 pc = .ok (.laload, 1)) (hdo : am_lld C.2.2.2.2 pc lv st h = some z)
    (k : ∀ (ls1 : Array Slot) (H1 : Heap) (locs1 : List Loc), am_N C D cI cC base b t s cells z.2.2.2 H1 locs1 → lv_has ls1 M.2.2.1 (am_lm base b t z.2.1) → W p l e R s m args below meth c H1 locs1 cells slots Q (F0 m z.1 ls1 (z.2.2.1.map (am_tr base b t)))) : W p l e R s m args below meth c H locs cells slots Q (F0 m pc ls (st.map (am_tr base b t))) := by
  obtain ⟨hx, hb, hml, hown, hts, hr, hlk, hnm, hK, hO, hbs⟩ := F
  obtain ⟨i, r, v, h0, rfl, rfl, hv⟩ := am_lld_inv hdo
  exact va_tl (v := .long v) hx hb hO.2.2.1 I.2.2 (am_in_of h0 (am_lt_of hv)) (by show Value.long (C.2.2.2.2.getD _ 0) = _; rw [List.getD_eq_getElem?_getD, hv]; rfl) hdec (k ls H locs I hl)
theorem am_set_upd (a : List Int32) (i : Nat) (v : Int32) (hi : i < a.length) : (fun j => (a.set i v).getD j 0) = upd (fun j => a.getD j 0) i v := by
  funext j
  unfold upd
  rw [List.getD_eq_getElem?_getD, List.getElem?_set]
  by_cases hj : j = i
  · subst hj
    rw [if_pos rfl, if_pos hi, if_pos rfl]
    rfl
  · rw [if_neg (fun q => hj q.symm), if_neg hj]
    exact List.getD_eq_getElem?_getD.symm
theorem am_psti (O : am_OK C G) (F : am_F C G D cI cC base b t p s m args meth c M) (I : am_N C D cI cC base b t s cells h H locs) (hl : lv_has ls M.2.2.1 (am_lm base b t lv)) (hdec : decode M.2.1 pc = .ok (.iastore, 1)) (hdo : am_sto false pc lv st h = some z)
    (k : ∀ (ls1 : Array Slot) (H1 : Heap) (locs1 : List Loc), am_N C D cI cC base b t s cells z.2.2.2 H1 locs1 → lv_has ls1 M.2.2.1 (am_lm base b t z.2.1) → W p l e R s m args below meth c H1 locs1 cells slots Q (F0 m z.1 ls1 (z.2.2.1.map (am_tr base b t)))) : W p l e R s m args below meth c H locs cells slots Q (F0 m pc ls (st.map (am_tr base b t))) := by
  obtain ⟨hx, hb, hml, hown, hts, hr, hlk, hnm, hK, hO, hbs⟩ := F
  obtain ⟨i, v, r, j, a, h0, rfl, hj, hi, rfl⟩ := am_sto_inv hdo
  refine va_iast (D := D) (cl := C.2.1) (a := base + j) (f := fun j => a.getD j 0) (cA := cI) (n := a.length) hx hb hK I.1 (am_w_D base b t cI cC h) I.2.2 j 0 (am_w_at hj) rfl (am_in_of h0 hi) hdec (fun H1 locs1 hP1 _ hS1 => k ls H1 locs1 ⟨?_, ?_, hS1⟩ hl)
  · rw [am_w_set]
    have e : am_e base b t cI cC (.inl (false, a.set i.toNatClampNeg v)) = .inl (cI, a.length, .inl (upd (fun j => a.getD j 0) i.toNatClampNeg v)) := by
      show (Sum.inl (cI, (a.set i.toNatClampNeg v).length, Sum.inl (fun j => (a.set i.toNatClampNeg v).getD j 0)) : va_E) = _
      rw [am_set_upd a _ v hi, List.length_set]
    have e2 : (bif false then vp_nar .char v else v) = v := rfl
    rw [e2, e]
    exact hP1
  · rw [List.length_set]
    exact I.2.1
theorem am_pstc (O : am_OK C G) (F : am_F C G D cI cC base b t p s m args meth c M) (I : am_N C D cI cC base b t s cells h H locs) (hl : lv_has ls M.2.2.1 (am_lm base b t lv)) (hdec : decode M.2.1 pc = .ok (.castore, 1)) (hdo : am_sto true pc lv st h = some z)
    (k : ∀ (ls1 : Array Slot) (H1 : Heap) (locs1 : List Loc), am_N C D cI cC base b t s cells z.2.2.2 H1 locs1 → lv_has ls1 M.2.2.1 (am_lm base b t z.2.1) → W p l e R s m args below meth c H1 locs1 cells slots Q (F0 m z.1 ls1 (z.2.2.1.map (am_tr base b t)))) : W p l e R s m args below meth c H locs cells slots Q (F0 m pc ls (st.map (am_tr base b t))) := by
  obtain ⟨hx, hb, hml, hown, hts, hr, hlk, hnm, hK, hO, hbs⟩ := F
  obtain ⟨i, v, r, j, a, h0, rfl, hj, hi, rfl⟩ := am_sto_inv hdo
  refine va_cast (D := D) (cl := C.2.1) (a := base + j) (f := fun j => a.getD j 0) (cA := cC) (n := a.length) hx hb hK I.1 (am_w_D base b t cI cC h) I.2.2 j 1 (am_w_at hj) rfl (am_in_of h0 hi) hdec (fun H1 locs1 hP1 _ hS1 => k ls H1 locs1 ⟨?_, ?_, hS1⟩ hl)
  · rw [am_w_set]
    have e : am_e base b t cI cC (.inl (true, a.set i.toNatClampNeg (vp_nar .char v))) = .inl (cC, a.length, .inl (upd (fun j => a.getD j 0) i.toNatClampNeg (vp_nar .char v))) := by
      show (Sum.inl (cC, (a.set i.toNatClampNeg (vp_nar .char v)).length, Sum.inl (fun j => (a.set i.toNatClampNeg (vp_nar .char v)).getD j 0)) : va_E) = _
      rw [am_set_upd a _ _ hi, List.length_set]
    have e2 : (bif true then vp_nar .char v else v) = vp_nar .char v := rfl
    rw [e2, e]
    exact hP1
  · rw [List.length_set]
    exact I.2.1
theorem am_plen (O : am_OK C G) (F : am_F C G D cI cC base b t p s m args meth c M) (I : am_N C D cI cC base b t s cells h H locs) (hl : lv_has ls M.2.2.1 (am_lm base b t lv)) (hdec : decode M.2.1 pc = .ok (.arraylength, 1)) (hdo : am_len C.2.2.2.1 C.2.2.2.2 pc lv st h = some z)
    (k : ∀ (ls1 : Array Slot) (H1 : Heap) (locs1 : List Loc), am_N C D cI cC base b t s cells z.2.2.2 H1 locs1 → lv_has ls1 M.2.2.1 (am_lm base b t z.2.1) → W p l e R s m args below meth c H1 locs1 cells slots Q (F0 m z.1 ls1 (z.2.2.1.map (am_tr base b t)))) : W p l e R s m args below meth c H locs cells slots Q (F0 m pc ls (st.map (am_tr base b t))) := by
  obtain ⟨hx, hb, hml, hown, hts, hr, hlk, hnm, hK, hO, hbs⟩ := F
  obtain ⟨r, v, rfl, hc⟩ := am_len_inv hdo
  rcases hc with ⟨rfl, rfl⟩ | ⟨rfl, rfl⟩ | ⟨j, o, rfl, hj, rfl⟩
  · exact va_slen hx hb hO.1 (Nat.lt_of_lt_of_le hO.2.1 hbs) (Nat.not_le.mpr hO.2.1) I.2.2 hdec (k ls H locs I hl)
  · exact va_tlen hx hb hO.2.2.1 I.2.2 rfl hdec (k ls H locs I hl)
  · obtain ⟨tg, a⟩ := o
    cases tg with
    | false => exact va_alen (D := D) (cl := C.2.1) (a := base + j) (cA := cI) (ty := .int) hx hb hK I.1 j 0 (am_w_at hj) rfl rfl hdec (k ls H locs I hl)
    | true => exact va_alen (D := D) (cl := C.2.1) (a := base + j) (cA := cC) (ty := .char) hx hb hK I.1 j 1 (am_w_at hj) rfl rfl hdec (k ls H locs I hl)
theorem am_cp_fun (f g : List Int32) (sp dp n : Nat) (h1 : sp + n ≤ f.length) (h2 : dp + n ≤ g.length) : (am_cp f g sp dp n).length = g.length ∧ (fun j => (am_cp f g sp dp n).getD j 0) = va_cpy (fun j => f.getD j 0) (fun j => g.getD j 0) sp dp n := by
  have l1 : (g.take dp).length = dp := by rw [List.length_take]; omega
  have l2 : ((f.drop sp).take n).length = n := by rw [List.length_take, List.length_drop]; omega
  refine ⟨?_, ?_⟩
  · unfold am_cp
    rw [List.length_append, List.length_append, l1, l2, List.length_drop]
    omega
  · funext j
    unfold am_cp va_cpy
    rw [List.getD_eq_getElem?_getD]
    by_cases hj : j < dp
    · rw [List.getElem?_append_left (by rw [l1]; exact hj), List.getElem?_take_of_lt hj, if_neg (by omega)]
      exact List.getD_eq_getElem?_getD.symm
    · rw [List.getElem?_append_right (by rw [l1]; omega), l1]
      by_cases hk : j < dp + n
      · rw [List.getElem?_append_left (by rw [l2]; omega), List.getElem?_take_of_lt (by omega), List.getElem?_drop, if_pos (by omega)]
        exact List.getD_eq_getElem?_getD.symm
      · rw [List.getElem?_append_right (by rw [l2]; omega), l2, List.getElem?_drop, if_neg (by omega)]
        have e : dp + n + (j - dp - n) = j := by omega
        rw [e]
        exact List.getD_eq_getElem?_getD.symm
theorem am_pmax {k0 d : Nat} (O : am_OK C G) (F : am_F C G D cI cC base b t p s m args meth c M) (I : am_N C D cI cC base b t s cells h H locs) (hl : lv_has ls M.2.2.1 (am_lm base b t lv)) (hd : d ≤ R.frames ∧ 64 * d ≤ R.locals) (hcs : cells ≤ R.cells ∧ slots ≤ R.slots) (hdec : decode M.2.1 pc = .ok (.invokestatic k0, 3)) (hlink : Cond.methodLink M.1.cls k0 Lib.Math.max.name ∈ G) (hdo : am_max d pc lv st h = some z)
    (k : ∀ (ls1 : Array Slot) (H1 : Heap) (locs1 : List Loc), am_N C D cI cC base b t s cells z.2.2.2 H1 locs1 → lv_has ls1 M.2.2.1 (am_lm base b t z.2.1) → W p l e R s m args below meth c H1 locs1 cells slots Q (F0 m z.1 ls1 (z.2.2.1.map (am_tr base b t)))) : W p l e R s m args below meth c H locs cells slots Q (F0 m pc ls (st.map (am_tr base b t))) := by
  obtain ⟨hx, hb, hml, hown, hts, hr, hlk, hnm, hK, hO, hbs⟩ := F
  obtain ⟨x, y, r, rfl, h1, h8, rfl⟩ := am_max_inv hdo
  obtain ⟨hg, -, -, g1, g2, g3, -⟩ := O.1
  exact va_mmax hx hb (hml.trans hl.1.symm) hown (hts _ hlink) (hts _ g1) (hts _ g2) (hts _ g3) (by omega) (by rw [am_ca_tr]; omega) hcs.1 hcs.2 hdec (k ls H locs I hl)
theorem am_poi {k0 d : Nat} (O : am_OK C G) (F : am_F C G D cI cC base b t p s m args meth c M) (I : am_N C D cI cC base b t s cells h H locs) (hl : lv_has ls M.2.2.1 (am_lm base b t lv)) (hd : d ≤ R.frames ∧ 64 * d ≤ R.locals) (hdec : decode M.2.1 pc = .ok (.invokespecial k0, 3)) (hlink : Cond.methodLink M.1.cls k0 objectInit ∈ G) (hdo : am_oi d pc lv st h = some z)
    (k : ∀ (ls1 : Array Slot) (H1 : Heap) (locs1 : List Loc), am_N C D cI cC base b t s cells z.2.2.2 H1 locs1 → lv_has ls1 M.2.2.1 (am_lm base b t z.2.1) → W p l e R s m args below meth c H1 locs1 cells slots Q (F0 m z.1 ls1 (z.2.2.1.map (am_tr base b t)))) : W p l e R s m args below meth c H locs cells slots Q (F0 m pc ls (st.map (am_tr base b t))) := by
  obtain ⟨hx, hb, hml, hown, hts, hr, hlk, hnm, hK, hO, hbs⟩ := F
  obtain ⟨a, r, rfl, h1, h8, rfl⟩ := am_oi_inv hdo
  obtain ⟨hg, g1, g2, -⟩ := O.1
  have K := k ls H locs I hl
  match a, K with
  | 0, K => exact W.objInit (a := b) (rest := r.map (am_tr base b t)) hx hb hown (hts _ hlink) (hts _ g1) (hts _ g2) rfl (hl.1.trans hml.symm) rfl hdec (by omega) (by show 2 * 0 + _ + 12 ≤ _; rw [am_ca_tr]; omega) K
  | 1, K => exact W.objInit (a := t) (rest := r.map (am_tr base b t)) hx hb hown (hts _ hlink) (hts _ g1) (hts _ g2) rfl (hl.1.trans hml.symm) rfl hdec (by omega) (by show 2 * 0 + _ + 12 ≤ _; rw [am_ca_tr]; omega) K
  | j + 2, K => exact W.objInit (a := base + j) (rest := r.map (am_tr base b t)) hx hb hown (hts _ hlink) (hts _ g1) (hts _ g2) rfl (hl.1.trans hml.symm) rfl hdec (by omega) (by show 2 * 0 + _ + 12 ≤ _; rw [am_ca_tr]; omega) K
theorem am_pacp {k0 d : Nat} (O : am_OK C G) (F : am_F C G D cI cC base b t p s m args meth c M) (I : am_N C D cI cC base b t s cells h H locs) (hl : lv_has ls M.2.2.1 (am_lm base b t lv)) (hd : d ≤ R.frames ∧ 64 * d ≤ R.locals) (hdec : decode M.2.1 pc = .ok (.invokestatic k0, 3)) (hlink : Cond.methodLink M.1.cls k0 arraycopyName ∈ G) (hdo : am_acp d pc lv st h = some z)
    (k : ∀ (ls1 : Array Slot) (H1 : Heap) (locs1 : List Loc), am_N C D cI cC base b t s cells z.2.2.2 H1 locs1 → lv_has ls1 M.2.2.1 (am_lm base b t z.2.1) → W p l e R s m args below meth c H1 locs1 cells slots Q (F0 m z.1 ls1 (z.2.2.1.map (am_tr base b t)))) : W p l e R s m args below meth c H locs cells slots Q (F0 m pc ls (st.map (am_tr base b t))) := by
  obtain ⟨hx, hb, hml, hown, hts, hr, hlk, hnm, hK, hO, hbs⟩ := F
  obtain ⟨n, dp, sp, j, j2, o, q, r, rfl, hj, hj2, hc, rfl⟩ := am_acp_inv hdo
  obtain ⟨hg, -, -, -, -, -, g1, g2, g3, -⟩ := O.1
  obtain ⟨to, lo⟩ := o
  obtain ⟨tq, lq⟩ := q
  unfold am_acc at hc
  simp only [Bool.and_eq_true, decide_eq_true_eq, Bool.not_eq_true', decide_eq_false_iff_not] at hc
  obtain ⟨⟨e1, e2⟩, ⟨d1, d8⟩, ⟨s1, s2, s3⟩, ⟨b1, b2⟩, hall⟩ := hc
  subst e1
  subst e2
  have hcp := am_cp_fun lq lo sp.toNatClampNeg dp.toNatClampNeg n.toNatClampNeg b1 b2
  refine va_copyi (D := D) (cl := C.2.1) (a := base + j) (a0 := base + j2) (c0 := cC) (c1 := cC) (n0 := lq.length) (n1 := lo.length) (f := fun j => lq.getD j 0) (g := fun j => lo.getD j 0) (ty := .char) hx hb (hml.trans hl.1.symm) hown (hts _ hlink) (hts _ g1) (hts _ g2) (hts _ g3) hK I.1 (am_w_D base b t cI cC h) I.2.2 j2 j 1 1 (am_w_at hj2) (am_w_at hj) rfl rfl rfl s1 s2 s3 b1 b2 ?_ (by omega) ?_ hdec (fun H1 locs1 hP1 _ hS1 => k ls H1 locs1 ⟨?_, ?_, hS1⟩ hl)
  · intro i hi
    rw [List.all_eq_true] at hall
    refine hall _ ?_
    rw [List.getD_eq_getElem?_getD]
    have hlt : sp.toNatClampNeg + i < lq.length := by omega
    rw [List.getElem?_eq_getElem hlt]
    refine List.mem_of_getElem? (i := i) ?_
    rw [List.getElem?_take_of_lt hi, List.getElem?_drop, List.getElem?_eq_getElem hlt]
    rfl
  · rw [am_ca_tr]
    have : nativeFrameWords "java/lang/System" "arraycopy" 5 = 7 := by decide +kernel
    omega
  · rw [am_w_set]
    have e : am_e base b t cI cC (.inl (true, am_cp lq lo sp.toNatClampNeg dp.toNatClampNeg n.toNatClampNeg)) = .inl (cC, lo.length, .inl (va_cpy (fun j => lq.getD j 0) (fun j => lo.getD j 0) sp.toNatClampNeg dp.toNatClampNeg n.toNatClampNeg)) := by
      show (Sum.inl (cC, (am_cp lq lo sp.toNatClampNeg dp.toNatClampNeg n.toNatClampNeg).length, Sum.inl (fun j => (am_cp lq lo sp.toNatClampNeg dp.toNatClampNeg n.toNatClampNeg).getD j 0)) : va_E) = _
      rw [hcp.1, hcp.2]
    rw [e]
    exact hP1
  · rw [List.length_set]
    exact I.2.1
end AMS
end
section
section AMT
variable {C : am_C} {G : List Cond} {D : va_G} {cI cC : ClassId} {base b t : Nat} {p : Program} {l : Launch} {e : Env} {R : Room} {s : State} {m : MethodId} {args : Array Value} {below : List Frame} {meth : Method} {c : Code} {M : am_M} {H : Heap} {locs : List Loc} {cells slots : Nat} {Q : State → Prop} {pc : Nat} {ls : Array Slot} {lv : am_V} {st : List Value} {h : List am_E} {z : am_Z}
set_option maxHeartbeats 4000000 in
/-- a step of the abstract machine is a step of the machine -/
theorem am_pl {i : Instr} {len d : Nat} {x : am_X} (O : am_OK C G) (F : am_F C G D cI cC base b t p s m args meth c M) (I : am_N C D cI cC base b t s cells h H locs) (hl : lv_has ls M.2.2.1 (am_lm base b t lv)) (hd : d ≤ R.frames ∧ 64 * d ≤ R.locals) (hcs : cells ≤ R.cells ∧ slots ≤ R.slots) (hok : am_ok C G M (pc, i, len, x)) (hkd : am_kd i x = 0) (hdo : am_do C d i x pc lv st h = some z)
    (k : ∀ (ls1 : Array Slot) (H1 : Heap) (locs1 : List Loc), am_N C D cI cC base b t s cells z.2.2.2 H1 locs1 → lv_has ls1 M.2.2.1 (am_lm base b t z.2.1) → W p l e R s m args below meth c H1 locs1 cells slots Q (F0 m z.1 ls1 (z.2.2.1.map (am_tr base b t)))) : W p l e R s m args below meth c H locs cells slots Q (F0 m pc ls (st.map (am_tr base b t))) := by
  have FX := F
  obtain ⟨hx, hb, hml, hown, hts, hr, hlk, hnm, hK, hO, hbs⟩ := FX
  obtain ⟨x1, x2, x3, x4⟩ := x
  have hdec : decode M.2.1 pc = .ok (i, len) := hok.1
  have hlo : am_lo C G M pc i len (x1, x2, x3, x4) := hok.2
  clear hok
  cases i
  case iconst n =>
    have hlo : len = 1 ∧ x4 = _ := hlo
    obtain ⟨rfl, rfl⟩ := hlo
    obtain rfl := Option.some.inj hdo
    exact lv_iconst hx hb hdec rfl (k ls H locs I hl)
  case bipush n =>
    have hlo : len = 2 ∧ x4 = _ := hlo
    obtain ⟨rfl, rfl⟩ := hlo
    obtain rfl := Option.some.inj hdo
    exact lv_bipush hx hb hdec rfl (k ls H locs I hl)
  case sipush n =>
    have hlo : len = 3 ∧ x4 = _ := hlo
    obtain ⟨rfl, rfl⟩ := hlo
    obtain rfl := Option.some.inj hdo
    exact lv_sipush hx hb hdec rfl (k ls H locs I hl)
  case lconst n =>
    have hlo : len = 1 ∧ x4 = _ := hlo
    obtain ⟨rfl, rfl⟩ := hlo
    obtain rfl := Option.some.inj hdo
    exact lv_lconst hx hb hdec rfl (k ls H locs I hl)
  case ldc2_w n =>
    obtain ⟨hlen, v, hv, hmem⟩ := hlo
    have hlen : len = 3 := hlen
    have hv : x4 = .long v := hv
    subst hlen
    subst hv
    obtain rfl := Option.some.inj hdo
    exact lv_ldc2 hx hb hown (hts _ hmem) hdec (k ls H locs I hl)
  case iload_n n =>
    have hlen : len = 1 := hlo
    subst hlen
    obtain ⟨v, hv, rfl⟩ := am_li1_inv hdo
    exact lv_iload_n hx hb hdec rfl (am_lk_at hl hv) (k ls H locs I hl)
  case iload n =>
    have hlen : len = 2 := hlo
    subst hlen
    obtain ⟨v, hv, rfl⟩ := am_li1_inv hdo
    exact lv_iload hx hb hdec (am_lk_at hl hv) (k ls H locs I hl)
  case lload_n n =>
    have hlen : len = 1 := hlo
    subst hlen
    obtain ⟨v, hv, rfl⟩ := am_ll1_inv hdo
    exact lv_lload_n hx hb hdec rfl (am_lk_at hl hv) (k ls H locs I hl)
  case lload n =>
    have hlen : len = 2 := hlo
    subst hlen
    obtain ⟨v, hv, rfl⟩ := am_ll1_inv hdo
    exact lv_lload hx hb hdec (am_lk_at hl hv) (k ls H locs I hl)
  case aload_n n =>
    have hlen : len = 1 := hlo
    subst hlen
    obtain ⟨v, hv, rfl⟩ := am_la1_inv hdo
    have hv := am_lk_at hl hv
    have K := k ls H locs I hl
    match v, hv, K with
    | 0, hv, K => exact lv_aload_n hx hb hdec rfl hv K
    | 1, hv, K => exact lv_aload_n hx hb hdec rfl hv K
    | j + 2, hv, K => exact lv_aload_n hx hb hdec rfl hv K
  case aload n =>
    have hlen : len = 2 := hlo
    subst hlen
    obtain ⟨v, hv, rfl⟩ := am_la1_inv hdo
    have hv := am_lk_at hl hv
    have K := k ls H locs I hl
    match v, hv, K with
    | 0, hv, K => exact lv_aload hx hb hdec hv K
    | 1, hv, K => exact lv_aload hx hb hdec hv K
    | j + 2, hv, K => exact lv_aload hx hb hdec hv K
  case istore_n n =>
    obtain ⟨hlen, hn⟩ := hlo
    have hlen : len = 1 := hlen
    subst hlen
    obtain ⟨v, r, rfl, rfl⟩ := am_si1_inv hdo
    exact lv_istore_n hx hb hdec rfl hl hn rfl (fun ls1 hl1 => k ls1 H locs I (am_s1_has (v := .int v) hl1))
  case istore n =>
    obtain ⟨hlen, hn⟩ := hlo
    have hlen : len = 2 := hlen
    subst hlen
    obtain ⟨v, r, rfl, rfl⟩ := am_si1_inv hdo
    exact lv_istore hx hb hdec hl hn rfl (fun ls1 hl1 => k ls1 H locs I (am_s1_has (v := .int v) hl1))
  case lstore_n n =>
    obtain ⟨hlen, hn⟩ := hlo
    have hlen : len = 1 := hlen
    subst hlen
    obtain ⟨v, r, rfl, rfl⟩ := am_sl1_inv hdo
    exact lv_lstore_n hx hb hdec rfl hl hn rfl (fun ls1 hl1 => k ls1 H locs I (am_s2_has (v := .long v) hl1))
  case lstore n =>
    obtain ⟨hlen, hn⟩ := hlo
    have hlen : len = 2 := hlen
    subst hlen
    obtain ⟨v, r, rfl, rfl⟩ := am_sl1_inv hdo
    exact lv_lstore hx hb hdec hl hn rfl (fun ls1 hl1 => k ls1 H locs I (am_s2_has (v := .long v) hl1))
  case astore_n n =>
    obtain ⟨hlen, hn⟩ := hlo
    have hlen : len = 1 := hlen
    subst hlen
    obtain ⟨v, r, rfl, rfl⟩ := am_sa1_inv hdo
    have K := fun (ls1 : Array Slot) hl1 => k ls1 H locs I (am_s1_has (v := .ref v) hl1)
    match v, K with
    | 0, K => exact lv_astore_n hx hb hdec rfl hl hn rfl K
    | 1, K => exact lv_astore_n hx hb hdec rfl hl hn rfl K
    | j + 2, K => exact lv_astore_n hx hb hdec rfl hl hn rfl K
  case astore n =>
    obtain ⟨hlen, hn⟩ := hlo
    have hlen : len = 2 := hlen
    subst hlen
    obtain ⟨v, r, rfl, rfl⟩ := am_sa1_inv hdo
    have K := fun (ls1 : Array Slot) hl1 => k ls1 H locs I (am_s1_has (v := .ref v) hl1)
    match v, K with
    | 0, K => exact lv_astore hx hb hdec hl hn rfl K
    | 1, K => exact lv_astore hx hb hdec hl hn rfl K
    | j + 2, K => exact lv_astore hx hb hdec hl hn rfl K
  case iinc i n =>
    obtain ⟨hlen, hn⟩ := hlo
    have hlen : len = 3 := hlen
    subst hlen
    obtain ⟨v, hv, rfl⟩ := am_inc_inv hdo
    obtain ⟨kx, hkx⟩ := am_lk_ix (base := base) (b := b) (t := t) hv
    exact lv_iinc hx hb hdec hl hkx rfl hn rfl (fun ls1 hl1 => k ls1 H locs I (am_s1_has (v := .int (v + Int32.ofInt n)) hl1))
  case iadd =>
    have hlen : len = 1 := hlo
    subst hlen
    obtain ⟨a, y, v, r, rfl, hf, rfl⟩ := am_ii_inv (f := fun x y => some (x + y)) hdo
    have hf : some (a + y) = some v := hf
    cases hf
    exact lv_iadd hx hb hdec (k ls H locs I hl)
  case isub =>
    have hlen : len = 1 := hlo
    subst hlen
    obtain ⟨a, y, v, r, rfl, hf, rfl⟩ := am_ii_inv (f := fun x y => some (x - y)) hdo
    have hf : some (a - y) = some v := hf
    cases hf
    exact lv_isub hx hb hdec (k ls H locs I hl)
  case imul =>
    have hlen : len = 1 := hlo
    subst hlen
    obtain ⟨a, y, v, r, rfl, hf, rfl⟩ := am_ii_inv (f := fun x y => some (x * y)) hdo
    have hf : some (a * y) = some v := hf
    cases hf
    exact lv_imul hx hb hdec (k ls H locs I hl)
  case iand =>
    have hlen : len = 1 := hlo
    subst hlen
    obtain ⟨a, y, v, r, rfl, hf, rfl⟩ := am_ii_inv (f := fun x y => some (x &&& y)) hdo
    have hf : some (a &&& y) = some v := hf
    cases hf
    exact lv_iand hx hb hdec (k ls H locs I hl)
  case ior =>
    have hlen : len = 1 := hlo
    subst hlen
    obtain ⟨a, y, v, r, rfl, hf, rfl⟩ := am_ii_inv (f := fun x y => some (x ||| y)) hdo
    have hf : some (a ||| y) = some v := hf
    cases hf
    exact lv_ior hx hb hdec (k ls H locs I hl)
  case idiv =>
    have hlen : len = 1 := hlo
    subst hlen
    obtain ⟨a, y, v, r, rfl, hf, rfl⟩ := am_ii_inv hdo
    have hf : (if y = 0 then none else some (a / y)) = some v := hf
    by_cases h0 : y = 0
    · rw [if_pos h0] at hf
      cases hf
    · rw [if_neg h0] at hf
      cases hf
      exact lv_idiv hx hb hdec h0 (k ls H locs I hl)
  case irem =>
    have hlen : len = 1 := hlo
    subst hlen
    obtain ⟨a, y, v, r, rfl, hf, rfl⟩ := am_ii_inv hdo
    have hf : (if y = 0 then none else some (a - a / y * y)) = some v := hf
    by_cases h0 : y = 0
    · rw [if_pos h0] at hf
      cases hf
    · rw [if_neg h0] at hf
      cases hf
      exact lv_irem hx hb hdec h0 (k ls H locs I hl)
  case ladd =>
    have hlen : len = 1 := hlo
    subst hlen
    obtain ⟨a, y, r, rfl, rfl⟩ := am_ll_inv hdo
    exact lv_ladd hx hb hdec (k ls H locs I hl)
  case lmul =>
    have hlen : len = 1 := hlo
    subst hlen
    obtain ⟨a, y, r, rfl, rfl⟩ := am_ll_inv hdo
    exact lv_lmul hx hb hdec (k ls H locs I hl)
  case land =>
    have hlen : len = 1 := hlo
    subst hlen
    obtain ⟨a, y, r, rfl, rfl⟩ := am_ll_inv hdo
    exact lv_land hx hb hdec (k ls H locs I hl)
  case lor =>
    have hlen : len = 1 := hlo
    subst hlen
    obtain ⟨a, y, r, rfl, rfl⟩ := am_ll_inv hdo
    exact lv_lor hx hb hdec (k ls H locs I hl)
  case lcmp =>
    have hlen : len = 1 := hlo
    subst hlen
    obtain ⟨a, y, r, rfl, rfl⟩ := am_ll_inv hdo
    exact W.lcmp hx hb hdec (k ls H locs I hl)
  case lshl =>
    have hlen : len = 1 := hlo
    subst hlen
    obtain ⟨a, y, r, rfl, rfl⟩ := am_li_inv hdo
    exact lv_lshl hx hb hdec rfl (k ls H locs I hl)
  case lushr =>
    have hlen : len = 1 := hlo
    subst hlen
    obtain ⟨a, y, r, rfl, rfl⟩ := am_li_inv hdo
    exact lv_lushr hx hb hdec rfl (k ls H locs I hl)
  case i2l =>
    have hlen : len = 1 := hlo
    subst hlen
    obtain ⟨a, r, rfl, rfl⟩ := am_ui_inv hdo
    exact lv_i2l hx hb hdec rfl (k ls H locs I hl)
  case i2c =>
    have hlen : len = 1 := hlo
    subst hlen
    obtain ⟨a, r, rfl, rfl⟩ := am_ui_inv hdo
    exact lv_i2c hx hb hdec rfl (k ls H locs I hl)
  case l2i =>
    have hlen : len = 1 := hlo
    subst hlen
    obtain ⟨a, r, rfl, rfl⟩ := am_ul_inv hdo
    exact lv_l2i hx hb hdec rfl (k ls H locs I hl)
  case ifCond cnd off =>
    obtain ⟨hlen, ht⟩ := hlo
    have hlen : len = 3 := hlen
    subst hlen
    obtain ⟨a, r, rfl, rfl⟩ := am_b1_inv hdo
    cases cnd with
    | eq =>
      refine lv_if_eq hx hb hdec ht (fun hc => ?_) (fun hc => ?_)
      · have K := k ls H locs I hl
        rw [show am_if .eq a 0 = true from decide_eq_true hc] at K
        exact K
      · have K := k ls H locs I hl
        rw [show am_if .eq a 0 = false from decide_eq_false hc] at K
        exact K
    | ne =>
      refine lv_if_ne hx hb hdec ht (fun hc => ?_) (fun hc => ?_)
      · have K := k ls H locs I hl
        rw [show am_if .ne a 0 = true from decide_eq_true hc] at K
        exact K
      · have K := k ls H locs I hl
        rw [show am_if .ne a 0 = false from decide_eq_false (not_not_intro hc)] at K
        exact K
    | lt =>
      refine lv_if_lt hx hb hdec ht (fun hc => ?_) (fun hc => ?_)
      · have K := k ls H locs I hl
        rw [show am_if .lt a 0 = true from decide_eq_true hc] at K
        exact K
      · have K := k ls H locs I hl
        rw [show am_if .lt a 0 = false from decide_eq_false hc] at K
        exact K
    | ge =>
      refine lv_if_ge hx hb hdec ht (fun hc => ?_) (fun hc => ?_)
      · have K := k ls H locs I hl
        rw [show am_if .ge a 0 = true from decide_eq_true hc] at K
        exact K
      · have K := k ls H locs I hl
        rw [show am_if .ge a 0 = false from decide_eq_false hc] at K
        exact K
    | gt =>
      refine lv_if_gt hx hb hdec ht (fun hc => ?_) (fun hc => ?_)
      · have K := k ls H locs I hl
        rw [show am_if .gt a 0 = true from decide_eq_true hc] at K
        exact K
      · have K := k ls H locs I hl
        rw [show am_if .gt a 0 = false from decide_eq_false hc] at K
        exact K
    | le =>
      refine lv_if_le hx hb hdec ht (fun hc => ?_) (fun hc => ?_)
      · have K := k ls H locs I hl
        rw [show am_if .le a 0 = true from decide_eq_true hc] at K
        exact K
      · have K := k ls H locs I hl
        rw [show am_if .le a 0 = false from decide_eq_false hc] at K
        exact K
  case if_icmp cnd off =>
    obtain ⟨hlen, ht⟩ := hlo
    have hlen : len = 3 := hlen
    subst hlen
    obtain ⟨a, y, r, rfl, rfl⟩ := am_b2_inv hdo
    cases cnd with
    | eq =>
      refine lv_icmp_eq hx hb hdec ht (fun hc => ?_) (fun hc => ?_)
      · have K := k ls H locs I hl
        rw [show am_if .eq a y = true from decide_eq_true hc] at K
        exact K
      · have K := k ls H locs I hl
        rw [show am_if .eq a y = false from decide_eq_false hc] at K
        exact K
    | ne =>
      refine lv_icmp_ne hx hb hdec ht (fun hc => ?_) (fun hc => ?_)
      · have K := k ls H locs I hl
        rw [show am_if .ne a y = true from decide_eq_true hc] at K
        exact K
      · have K := k ls H locs I hl
        rw [show am_if .ne a y = false from decide_eq_false (not_not_intro hc)] at K
        exact K
    | lt =>
      refine lv_icmp_lt hx hb hdec ht (fun hc => ?_) (fun hc => ?_)
      · have K := k ls H locs I hl
        rw [show am_if .lt a y = true from decide_eq_true hc] at K
        exact K
      · have K := k ls H locs I hl
        rw [show am_if .lt a y = false from decide_eq_false hc] at K
        exact K
    | ge =>
      refine lv_icmp_ge hx hb hdec ht (fun hc => ?_) (fun hc => ?_)
      · have K := k ls H locs I hl
        rw [show am_if .ge a y = true from decide_eq_true hc] at K
        exact K
      · have K := k ls H locs I hl
        rw [show am_if .ge a y = false from decide_eq_false hc] at K
        exact K
    | gt =>
      refine lv_icmp_gt hx hb hdec ht (fun hc => ?_) (fun hc => ?_)
      · have K := k ls H locs I hl
        rw [show am_if .gt a y = true from decide_eq_true hc] at K
        exact K
      · have K := k ls H locs I hl
        rw [show am_if .gt a y = false from decide_eq_false hc] at K
        exact K
    | le =>
      refine lv_icmp_le hx hb hdec ht (fun hc => ?_) (fun hc => ?_)
      · have K := k ls H locs I hl
        rw [show am_if .le a y = true from decide_eq_true hc] at K
        exact K
      · have K := k ls H locs I hl
        rw [show am_if .le a y = false from decide_eq_false hc] at K
        exact K
  case goto off =>
    obtain ⟨hlen, ht⟩ := hlo
    have hlen : len = 3 := hlen
    subst hlen
    obtain rfl := Option.some.inj hdo
    exact lv_goto hx hb hdec ht (k ls H locs I hl)
  case tableswitch dflt lo hi offs =>
    obtain ⟨a, tgt, r, rfl, hf, rfl⟩ := am_sw_inv hdo
    unfold am_ts at hf
    by_cases hc : a.toInt < lo ∨ hi < a.toInt
    · rw [if_pos hc] at hf
      exact lv_tableOut hx hb hdec hc (am_to_eq hf) (k ls H locs I hl)
    · rw [if_neg hc] at hf
      cases ho : offs[(a.toInt - lo).toNat]? with
      | none => rw [ho] at hf; cases hf
      | some off =>
        rw [ho] at hf
        exact lv_tableIn hx hb hdec (fun w => hc (Or.inl w)) (fun w => hc (Or.inr w)) ho (am_to_eq hf) (k ls H locs I hl)
  case lookupswitch dflt ps =>
    obtain ⟨a, tgt, r, rfl, hf, rfl⟩ := am_sw_inv hdo
    exact lv_lookup hx hb hdec hlo rfl (am_to_eq hf) (k ls H locs I hl)
  case dup =>
    have hlen : len = 1 := hlo
    subst hlen
    obtain ⟨v, r, rfl, hc, rfl⟩ := am_dup_inv hdo
    exact lv_dup hx hb hdec ((am_tr_cat base b t v).trans hc) (k ls H locs I hl)
  case pop =>
    have hlen : len = 1 := hlo
    subst hlen
    obtain ⟨v, r, rfl, hc, rfl⟩ := am_pop_inv hdo
    exact lv_pop hx hb hdec ((am_tr_cat base b t v).trans hc) (k ls H locs I hl)
  case getfield n =>
    obtain ⟨hlen, hfl⟩ := hlo
    have hlen : len = 3 := hlen
    subst hlen
    exact am_pget O F I hl hdec hfl hdo k
  case putfield n =>
    obtain ⟨hlen, hfl, hfi⟩ := hlo
    have hlen : len = 3 := hlen
    subst hlen
    exact am_pput O F I hl hdec hfl hfi hdo k
  case getstatic n =>
    obtain ⟨hlen, hmem⟩ := hlo
    have hlen : len = 3 := hlen
    subst hlen
    obtain rfl := Option.some.inj hdo
    exact va_gets hx hb hO.2.2.2 I.2.2 hown (hts _ hmem) (fun y hy => hy) hdec (k ls H locs I hl)
  case iaload =>
    have hlen : len = 1 := hlo
    subst hlen
    exact am_pildi O F I hl hdec hdo k
  case caload =>
    have hlen : len = 1 := hlo
    subst hlen
    exact am_pildc O F I hl hdec hdo k
  case laload =>
    have hlen : len = 1 := hlo
    subst hlen
    exact am_plld O F I hl hdec hdo k
  case iastore =>
    have hlen : len = 1 := hlo
    subst hlen
    exact am_psti O F I hl hdec hdo k
  case castore =>
    have hlen : len = 1 := hlo
    subst hlen
    exact am_pstc O F I hl hdec hdo k
  case arraylength =>
    have hlen : len = 1 := hlo
    subst hlen
    exact am_plen O F I hl hdec hdo k
  case invokespecial n =>
    obtain ⟨hlen, hq⟩ := hlo
    have hlen : len = 3 := hlen
    subst hlen
    rcases hq with ⟨-, hmem⟩ | ⟨hne, -⟩
    · exact am_poi O F I hl hd hdec hmem hdo k
    · have hkd : (bif x1 == 1002 then 0 else 1) = 0 := hkd
      have hne : x1 ≠ 1002 := hne
      rw [beq_false_of_ne hne] at hkd
      cases hkd
  case invokestatic n =>
    obtain ⟨hlen, hq⟩ := hlo
    have hlen : len = 3 := hlen
    subst hlen
    rcases hq with ⟨h1, hmem⟩ | ⟨h1, hmem⟩ | ⟨hne, hne2, -⟩
    · have h1 : x1 = 1000 := h1
      subst h1
      exact am_pmax O F I hl hd hcs hdec hmem hdo k
    · have h1 : x1 = 1001 := h1
      subst h1
      exact am_pacp O F I hl hd hdec hmem hdo k
    · have hkd : (bif x1 == 1000 then 0 else bif x1 == 1001 then 0 else 1) = 0 := hkd
      have hne : x1 ≠ 1000 := hne
      have hne2 : x1 ≠ 1001 := hne2
      rw [beq_false_of_ne hne, beq_false_of_ne hne2] at hkd
      cases hkd
  all_goals first
    | exact absurd (show (none : Option am_Z) = some z from hdo) (by simp)
    | exact absurd (show (1 : Nat) = 0 from hkd) (by decide)
    | exact absurd (show (2 : Nat) = 0 from hkd) (by decide)
    | exact absurd (show (3 : Nat) = 0 from hkd) (by decide)
end AMT
end
section
def am_Pc (C : am_C) (D : va_G) (cI cC : ClassId) (base b t : Nat) (vs : List Value) (h : List am_E) : Array Value → State → Prop := va_Pc (vs.map (am_tr base b t)) (fun U => U.heap.size = base + h.length ∧ va_P D C.2.1 (am_w base b t cI cC h) U.heap ∧ va_K D C.2.1 [(cI, .int), (cC, .char)] U ∧ am_Old C base b t U U.heap)
def am_Qc (C : am_C) (D : va_G) (cI cC : ClassId) (base b t : Nat) (r : Option Value) (h h1 : List am_E) (c1 : Nat) : Array Value → State → Outcome → State → Prop := fun _ st oc u => (oc = .returned (r.map (am_tr base b t)) ∧ h1.length = h.length + c1 ∧ va_P D C.2.1 (am_w base b t cI cC h1) u.heap) ∧ va_F (am_A base) st u
def am_rm (d c1 s1 : Nat) : Room := { frames := d, cells := c1, slots := s1, locals := 64 * d }
theorem am_blind (C : am_C) (D : va_G) (cI cC : ClassId) (base b t : Nat) (vs : List Value) (h : List am_E) : FrameBlind (am_Pc C D cI cC base b t vs h) := fun a U g mk q => by
  obtain ⟨q0, q1, qP, qK, qO⟩ := q
  exact ⟨q0, q1, qP, va_K.moved (u := U) (U := U.calling g mk a) (Vm.Alike.refl U.vm) qK, am_Old.moved (u := U) (U := U.calling g mk a) (Vm.Alike.refl U.vm) qO⟩
theorem am_tr_dv (base b t : Nat) (ty : FieldType) : am_tr base b t (defaultValue ty) = defaultValue ty := by cases ty <;> rfl
section AMU
variable {C : am_C} {G : List Cond} {D : va_G} {cI cC : ClassId} {base b t : Nat} {p : Program} {l : Launch} {e : Env} {R : Room} {s : State} {m : MethodId} {args : Array Value} {below : List Frame} {meth : Method} {c : Code} {M : am_M} {H : Heap} {locs : List Loc} {cells slots : Nat} {Q : State → Prop} {pc : Nat} {ls : Array Slot} {lv : am_V} {st : List Value} {h : List am_E}
theorem am_back {a : Array Value} {st0 rest : List Value} {r : Option Value} {h1 : List am_E} {c1 s1 : Nat} (I : am_N C D cI cC base b t s cells h H locs)
    (hr : va_Run p l e R s m args below meth c H locs cells slots c1 s1 (F0 m pc ls st0) rest (am_Qc C D cI cC base b t r h h1 c1 a) (am_A base))
    (kk : ∀ (H1 : Heap) (locs1 : List Loc), am_N C D cI cC base b t s (cells + c1) h1 H1 locs1 → W p l e R s m args below meth c H1 locs1 (cells + c1) (slots + s1) Q (F0 m (pc + 3) ls ((r.map (am_tr base b t)).toList ++ rest))) : W p l e R s m args below meth c H locs cells slots Q (F0 m pc ls st0) := by
  intro T hT X
  obtain ⟨v, st₀, u, T', L, h0, X', hL, e1, e2, ⟨⟨hv, hlen, hP1⟩, hz, hk⟩, st⟩ := hr T hT X
  cases hv
  rw [h0] at hz hk
  have hS := I.2.2
  have hN : am_N C D cI cC base b t s (cells + c1) h1 T'.heap (locs ++ L) := by
    refine ⟨by rw [e1]; exact hP1, by rw [hlen]; have := I.2.1; omega, Nat.le_trans hS.1 (by rw [e1]; exact hz), fun q g1 g2 => ?_, fun q hq => ?_⟩
    · rw [e1, hk q (Nat.lt_of_lt_of_le g1 hS.1) g2]
      exact hS.2.1 q g1 g2
    · rcases List.mem_append.mp hq with g | g
      · exact hS.2.2 q g
      · exact hL q g
  obtain ⟨t2, a1, b1⟩ := kk T'.heap (locs ++ L) hN T' rfl X'
  exact ⟨t2, st t2 a1, b1⟩
theorem am_ent {vs : List Value} (F : am_F C G D cI cC base b t p s m args meth c M) (I : am_N C D cI cC base b t s cells h H locs) (hz : H.size = base + h.length) (U : State) (hU : U.heap = H) (hW : s.WarmedH U.vm) : am_Pc C D cI cC base b t vs h (vs.map (am_tr base b t)).toArray U := by
  obtain ⟨hx, hb, hml, hown, hts, hr, hlk, hnm, hK, hO, hbs⟩ := F
  refine ⟨rfl, by rw [hU]; exact hz, by rw [hU]; exact I.1, va_K.moved hW.alike hK, ?_⟩
  rw [hU]
  exact (am_Old.moved hW.alike hO).kept (fun a g1 g2 => I.2.2.2.1 a g1 g2)
theorem am_good (O : am_OK C G) {w : Cond} (h : w ∈ G) : w ∈ G ∧ ((w.onTables && w.keeps) = true ∨ ∃ ty, w = .arrayClass ty) := ⟨h, O.1.1 w h⟩
/-- a call -/
theorem am_pc {i : Instr} {len d1 c1 s1 : Nat} {x : am_X} {z : Nat × List Value × List Value} {r : Option Value} {h1 : List am_E} (O : am_OK C G) (F : am_F C G D cI cC base b t p s m args meth c M) (I : am_N C D cI cC base b t s cells h H locs) (hl : lv_has ls M.2.2.1 (am_lm base b t lv)) (hd : d1 + 1 ≤ R.frames ∧ 64 * (d1 + 1) ≤ R.locals) (hcs : cells + c1 ≤ R.cells ∧ slots + s1 ≤ R.slots) (hok : am_ok C G M (pc, i, len, x)) (hkd : am_kd i x = 1) (hdc : am_dc C i x st h = some z)
    (hM : ∀ N : am_M, C.1[z.1]? = some N → z.1 ≠ 0 → (lg_sl z.2.1).length ≤ N.2.2.1 → Met l N.1 (Cond.code N.1 N.2.1 N.2.2.1 N.2.2.2.1 :: G) (am_rm d1 c1 s1) (am_Pc C D cI cC base b t z.2.1 h) (am_Qc C D cI cC base b t r h h1 c1) c1 s1 (am_A base))
    (kk : ∀ (H1 : Heap) (locs1 : List Loc), am_N C D cI cC base b t s (cells + c1) h1 H1 locs1 → W p l e R s m args below meth c H1 locs1 (cells + c1) (slots + s1) Q (F0 m (pc + 3) ls ((r.toList ++ z.2.2).map (am_tr base b t)))) : W p l e R s m args below meth c H locs cells slots Q (F0 m pc ls (st.map (am_tr base b t))) := by
  refine am_small (fun hz0 => ?_)
  have FX := F
  obtain ⟨hx, hb, hml, hown, hts, hr, hlk, hnm, hK, hO, hbs⟩ := FX
  have hz := I.size hbs hz0
  obtain ⟨x1, x2, x3, x4⟩ := x
  have hdec : decode M.2.1 pc = .ok (i, len) := hok.1
  have hlo : am_lo C G M pc i len (x1, x2, x3, x4) := hok.2
  clear hok
  have kk : ∀ (H1 : Heap) (locs1 : List Loc), am_N C D cI cC base b t s (cells + c1) h1 H1 locs1 → W p l e R s m args below meth c H1 locs1 (cells + c1) (slots + s1) Q (F0 m (pc + 3) ls ((r.map (am_tr base b t)).toList ++ z.2.2.map (am_tr base b t))) := by
    intro H1 locs1 I1
    have K := kk H1 locs1 I1
    rw [List.map_append] at K
    cases r <;> exact K
  cases i
  case invokevirtual k0 =>
    obtain ⟨hlen, hne, N, ci, q, hN, hx4, hq, hqc, m1, m2, m3, m4⟩ := hlo
    have hlen : len = 3 := hlen
    subst hlen
    have hx4 : x4 = .ref ci := hx4
    subst hx4
    obtain ⟨j, fs, rr, N', hst, hln, hj, hN', hsl, h8, rfl⟩ := am_cv_inv hdc
    have hmc := (O.2.2 _ _ hN).2 hne
    refine am_back I (va_runV (As := ((st.take x2).reverse).map (am_tr base b t)) (rest := rr.map (am_tr base b t)) (C := N.1.cls) (b := base + j) (n := x2) ⟨hx, hb, hml, hown, hts⟩ (hM N hN hne (by cases hN.symm.trans hN'; exact hsl)) (cwV x2 hts ?_ rfl rfl rfl ⟨rfl, hmc.2.2.2.1.1, hmc.2.2.2.1.2, m4⟩ ⟨hd.1, ?_⟩) ⟨am_blind C D cI cC base b t _ h, ?_, ?_⟩ rfl ?_ hl.1 ?_ (lv_room (by rw [am_ca_tr]; exact h8)) hdec hcs) kk
    · intro w hw
      simp only [wsV, List.cons_append, List.nil_append, List.mem_cons] at hw
      rcases hw with rfl | rfl | rfl | rfl | rfl | hw
      · exact am_good O m1
      · exact am_good O m2
      · exact am_good O m3
      · exact am_good O hmc.2.1
      · exact am_good O hmc.1
      · exact am_good O hw
    · have := hmc.2.2.2.2
      show 8 + (N.2.2.1 + 11) + 64 * d1 ≤ R.locals
      omega
    · have hv := va_recv hK I.1 hq (am_w_at hj)
      rw [hqc] at hv
      exact hv
    · intro U hU hW
      exact am_ent F I hz U hU hW
    · rw [List.length_map, List.length_reverse]
      exact hln
    · exact (congrArg (List.map (am_tr base b t)) hst).trans (by rw [List.map_append, ← List.map_reverse, List.reverse_reverse]; rfl)
  case invokespecial k0 =>
    obtain ⟨hlen, hq⟩ := hlo
    have hlen : len = 3 := hlen
    subst hlen
    rcases hq with ⟨h1, -⟩ | ⟨-, hne, N, hN, m1, m2, m3, m4, m5⟩
    · have h1 : x1 = 1002 := h1
      subst h1
      exact absurd (show (0 : Nat) = 1 from hkd) (by decide)
    · obtain ⟨a, rr, N', hst, hln, hN', hsl, h8, rfl⟩ := am_ci_inv hdc
      have hmc := (O.2.2 _ _ hN).2 hne
      have hsl2 : (lg_sl (.ref a :: (st.take x2).reverse)).length ≤ N.2.2.1 := by cases hN.symm.trans hN'; exact hsl
      have hMet := hM N hN hne hsl2
      rw [m4] at hMet
      have hcode := hmc.1
      rw [m4] at hcode
      have hrun : ∀ a' : Nat, am_tr base b t (.ref a) = .ref a' → W p l e R s m args below meth c H locs cells slots Q (F0 m pc ls (st.map (am_tr base b t))) := by
        intro a' ha'
        refine am_back I (va_runI (As := ((st.take x2).reverse).map (am_tr base b t)) (rest := rr.map (am_tr base b t)) (b := a') (n := x2) (bytes := N.2.1) (maxL := N.2.2.1) ⟨hx, hb, hml, hown, hts⟩ hMet (cwI x2 hts ?_ rfl rfl rfl (hts _ hmc.2.1) (hts _ m1) (hts _ m2) m3 ⟨hmc.2.2.2.1.1, hmc.2.2.2.1.2, m5⟩ ⟨hd.1, ?_⟩) ⟨am_blind C D cI cC base b t _ h, ?_⟩ rfl ?_ hl.1 ?_ (lv_room (by rw [am_ca_tr]; exact h8)) hdec hcs) kk
        · intro w hw
          rcases List.mem_cons.mp hw with rfl | hw
          · exact am_good O hcode
          · exact am_good O hw
        · have := hmc.2.2.2.2
          show 8 + (N.2.2.1 + 11) + 64 * d1 ≤ R.locals
          omega
        · intro U hU hW
          have hE := am_ent (vs := .ref a :: (st.take x2).reverse) F I hz U hU hW
          rw [List.map_cons, ha'] at hE
          exact hE
        · rw [List.length_map, List.length_reverse]
          exact hln
        · exact (congrArg (List.map (am_tr base b t)) hst).trans (by rw [List.map_append, ← List.map_reverse, List.reverse_reverse, List.map_cons, ha'])
      match a, hrun with
      | 0, hrun => exact hrun b rfl
      | 1, hrun => exact hrun t rfl
      | j + 2, hrun => exact hrun (base + j) rfl
  case invokestatic k0 =>
    obtain ⟨hlen, hq⟩ := hlo
    have hlen : len = 3 := hlen
    subst hlen
    rcases hq with ⟨h1, -⟩ | ⟨h1, -⟩ | ⟨-, -, hne, N, hN, m1, m2, m3⟩
    · have h1 : x1 = 1000 := h1
      subst h1
      exact absurd (show (0 : Nat) = 1 from hkd) (by decide)
    · have h1 : x1 = 1001 := h1
      subst h1
      exact absurd (show (0 : Nat) = 1 from hkd) (by decide)
    · obtain ⟨N', hln, hN', hsl, h8, rfl⟩ := am_cs_inv hdc
      have hmc := (O.2.2 _ _ hN).2 hne
      have hsl2 : (lg_sl (st.take x2).reverse).length ≤ N.2.2.1 := by cases hN.symm.trans hN'; exact hsl
      refine am_back I (va_runS (As := ((st.take x2).reverse).map (am_tr base b t)) (rest := (st.drop x2).map (am_tr base b t)) (n := x2) ⟨hx, hb, hml, hown, hts⟩ (hM N hN hne hsl2) (va_cwS x2 hts ?_ rfl rfl rfl ⟨hmc.2.2.2.1.1, hmc.2.2.2.1.2, m3⟩ ⟨hd.1, ?_⟩) ⟨am_blind C D cI cC base b t _ h, ?_⟩ rfl ?_ hl.1 ?_ (lv_room (by rw [am_ca_tr]; exact h8)) hdec hcs) kk
      · intro w hw
        simp only [va_wsS, List.cons_append, List.nil_append, List.mem_cons] at hw
        rcases hw with rfl | rfl | rfl | rfl | hw
        · exact am_good O m1
        · exact am_good O m2
        · exact am_good O hmc.2.1
        · exact am_good O hmc.1
        · exact am_good O hw
      · have := hmc.2.2.2.2
        show 8 + (N.2.2.1 + 11) + 64 * d1 ≤ R.locals
        omega
      · intro U hU hW
        exact am_ent F I hz U hU hW
      · rw [List.length_map, List.length_reverse]
        exact hln
      · show st.map (am_tr base b t) = _
        rw [← List.map_reverse, List.reverse_reverse, ← List.map_append, List.take_append_drop]
  all_goals exact absurd (show (none : Option (Nat × List Value × List Value)) = some z from hdc) (by simp)
/-- a making -/
theorem am_pn {i : Instr} {len : Nat} {x : am_X} {z : Nat × List Value × am_E × Nat} (O : am_OK C G) (F : am_F C G D cI cC base b t p s m args meth c M) (I : am_N C D cI cC base b t s cells h H locs) (hl : lv_has ls M.2.2.1 (am_lm base b t lv)) (hcs : cells + 1 ≤ R.cells ∧ slots + z.2.2.2 ≤ R.slots) (hok : am_ok C G M (pc, i, len, x)) (hdn : am_dn C i x pc st = some z)
    (kk : ∀ (H1 : Heap), am_N C D cI cC base b t s (cells + 1) (h ++ [z.2.2.1]) H1 locs → W p l e R s m args below meth c H1 locs (cells + 1) (slots + z.2.2.2) Q (F0 m z.1 ls ((.ref (h.length + 2) :: z.2.1).map (am_tr base b t)))) : W p l e R s m args below meth c H locs cells slots Q (F0 m pc ls (st.map (am_tr base b t))) := by
  refine am_small (fun hz0 => ?_)
  obtain ⟨hx, hb, hml, hown, hts, hr, hlk, hnm, hK, hO, hbs⟩ := F
  have hz := I.size hbs hz0
  have hgrow : ∀ (H1 : Heap) (e1 : am_E), va_at D C.2.1 (base + h.length, am_e base b t cI cC e1) H1 → H1.size = H.size + 1 → (∀ q, q < H.size → H1[q]? = H[q]?) → am_N C D cI cC base b t s (cells + 1) (h ++ [e1]) H1 locs := by
    intro H1 e1 ha hs1 ho
    refine ⟨?_, ?_, ?_⟩
    · rw [am_w_push]
      refine (va_P.kept I.1 (fun k q hq => ho q.1 ((I.1 k q hq).lt))).app (fun k q hq => ?_)
      have hk1 : k < 1 := (List.getElem?_eq_some_iff.mp hq).1
      obtain rfl : k = 0 := by omega
      cases hq
      exact ha
    · rw [List.length_append, List.length_singleton]
      have := I.2.1
      omega
    · exact ⟨by have := I.2.2.1; omega, fun q g1 g2 => (ho q (Nat.lt_of_lt_of_le g1 I.2.2.1)).trans (I.2.2.2.1 q g1 g2), I.2.2.2.2⟩
  obtain ⟨x1, x2, x3, x4⟩ := x
  have hdec : decode M.2.1 pc = .ok (i, len) := hok.1
  have hlo : am_lo C G M pc i len (x1, x2, x3, x4) := hok.2
  clear hok
  cases i
  case newarray ty =>
    have hlen : len = 2 := hlo
    subst hlen
    obtain ⟨n, rr, tg, rfl, h0, h1, hty, rfl⟩ := am_na_inv hdn
    have hdv : (fun j => Value.int ((List.replicate n.toNatClampNeg (0 : Int32)).getD j 0)) = fun _ => Value.int 0 := by
      funext j
      rw [List.getD_eq_getElem?_getD, List.getElem?_replicate]
      split <;> rfl
    rcases hty with ⟨rfl, rfl⟩ | ⟨rfl, rfl⟩
    · refine va_newaK (atype := .int) (N := n.toNatClampNeg) hx hb (hts _ O.1.2.2.2.2.2.2.2.2.2.1) rfl hdec rfl h0 rfl (by show n.toNatClampNeg * 4 ≤ _; omega) hcs.1 hcs.2 hz fun H1 cA e1 z1 o1 hAr hNm => ?_
      have hcA : cA = cI := Option.some.inj (hNm.symm.trans (hK.2 0 _ rfl).2)
      subst hcA
      refine kk H1 (hgrow H1 _ ?_ (by rw [z1, hz]) (fun q g => o1 q (by rw [← hz]; exact g)))
      show H1[base + h.length]? = some (arrV cA (List.replicate n.toNatClampNeg (0 : Int32)).length (fun j => .int ((List.replicate n.toNatClampNeg (0 : Int32)).getD j 0)))
      rw [hdv, List.length_replicate, e1]
      rfl
    · refine va_newaK (atype := .char) (N := n.toNatClampNeg) hx hb (hts _ O.1.2.2.2.2.2.2.2.2.2.2) rfl hdec rfl h0 rfl (by show n.toNatClampNeg * 2 ≤ _; omega) hcs.1 hcs.2 hz fun H1 cA e1 z1 o1 hAr hNm => ?_
      have hcA : cA = cC := Option.some.inj (hNm.symm.trans (hK.2 1 _ rfl).2)
      subst hcA
      refine kk H1 (hgrow H1 _ ?_ (by rw [z1, hz]) (fun q g => o1 q (by rw [← hz]; exact g)))
      show H1[base + h.length]? = some (arrV cA (List.replicate n.toNatClampNeg (0 : Int32)).length (fun j => .int ((List.replicate n.toNatClampNeg (0 : Int32)).getD j 0)))
      rw [hdv, List.length_replicate, e1]
      rfl
  case new k0 =>
    obtain ⟨hlen, q, hq, hcl⟩ := hlo
    have hlen : len = 3 := hlen
    subst hlen
    have hq : C.2.1[x1]? = some q := hq
    have hco := O.2.1 _ _ hq
    have hdn : am_new C x1 pc st = some z := hdn
    unfold am_new at hdn
    rw [hq] at hdn
    obtain rfl := Option.some.inj hdn
    have hKn := hK.1 x1 _ hq
    refine W.newcK hx hb hown (hts _ hcl) (hts _ hco.2.2.2.1) (hts _ hco.2.2.2.2.1) rfl hdec hcs.1 hcs.2 hKn.2.1 hz fun H1 kC hkC e1 z1 o1 => ?_
    refine kk H1 (hgrow H1 _ ?_ (by rw [z1, hz]) (fun q g => o1 q (by rw [← hz]; exact g)))
    refine ⟨q, hq, (u_born (C.2.2.1 x1) hts hco.1 hKn hkC e1 hco.2.1).to ?_⟩
    intro j hj
    show defaultValue (C.2.2.1 x1 j) = ((((List.range q.2.2).map (fun j => defaultValue (C.2.2.1 x1 j))).map (am_tr base b t)).getD j .null)
    rw [List.getD_eq_getElem?_getD, List.getElem?_map, List.getElem?_map, List.getElem?_range hj]
    exact (am_tr_dv base b t _).symm
  all_goals exact absurd (show (none : Option (Nat × List Value × am_E × Nat)) = some z from hdn) (by simp)
/-- an end -/
theorem am_ret {i : Instr} {len : Nat} {x : am_X} {r : Option Value} {Qc : Array Value → State → Outcome → State → Prop} {free : Addr → Prop} (F : am_F C G D cI cC base b t p s m args meth c M) (hok : am_ok C G M (pc, i, len, x)) (hdr : am_dr M.2.2.2.1 i st = some r)
    (hq : ∀ u : State, u.heap = H → s.WarmedH u.vm → Qc args s (.returned (r.map (am_tr base b t))) u) (hf : ∀ q ∈ locs, free q.base) : W p l e R s m args below meth c H locs cells slots (MQ below Qc args s cells slots free) (F0 m pc ls (st.map (am_tr base b t))) := by
  obtain ⟨hx, hb, hml, hown, hts, hr, hlk, hnm, hK, hO, hbs⟩ := F
  have hdec : decode M.2.1 pc = .ok (i, len) := hok.1
  have hlo : am_lo C G M pc i len x := hok.2
  cases i
  case ireturn =>
    have hlen : len = 1 := hlo
    subst hlen
    have hdr : am_ri M.2.2.2.1 st = some r := hdr
    unfold am_ri at hdr
    rcases st with _ | ⟨v0, st⟩
    · exact absurd hdr (by simp)
    cases v0 with
    | int v =>
      rcases st with _ | ⟨v1, st⟩
      · generalize hre : M.2.2.2.1 = ret at hdr hr
        cases ret with
        | none => exact absurd hdr (by simp)
        | some ty =>
          cases ty with
          | int =>
            obtain rfl := Option.some.inj hdr
            exact W.iret hx hb hr hq hf hdec (hlocks := hlk)
          | boolean =>
            have hdr : (bif decide (v = 0) || decide (v = 1) then some (some (.int v)) else none) = some r := hdr
            cases hc : (decide (v = 0) || decide (v = 1)) with
            | false => rw [hc] at hdr; cases hdr
            | true =>
              rw [hc] at hdr
              obtain rfl := Option.some.inj hdr
              have hn : narrow .boolean (.int v) = .int v := (am_fi_ok base b t (ty := .boolean) (v := .int v) hc).1
              exact W.zret (ty := .boolean) hx hb hr hn hq hf hdec (hlocks := hlk)
          | _ => exact absurd hdr (by simp)
      · exact absurd hdr (by simp)
    | _ => exact absurd hdr (by simp)
  case lreturn =>
    have hlen : len = 1 := hlo
    subst hlen
    have hdr : am_rl M.2.2.2.1 st = some r := hdr
    unfold am_rl at hdr
    rcases st with _ | ⟨v0, st⟩
    · exact absurd hdr (by simp)
    cases v0 with
    | long v =>
      rcases st with _ | ⟨v1, st⟩
      · generalize hre : M.2.2.2.1 = ret at hdr hr
        cases ret with
        | none => exact absurd hdr (by simp)
        | some ty =>
          cases ty with
          | long =>
            obtain rfl := Option.some.inj hdr
            exact W.lret hx hb hr hq hf hdec (hlocks := hlk)
          | _ => exact absurd hdr (by simp)
      · exact absurd hdr (by simp)
    | _ => exact absurd hdr (by simp)
  case return_ =>
    have hlen : len = 1 := hlo
    subst hlen
    have hdr : am_rv M.2.2.2.1 st = some r := hdr
    unfold am_rv at hdr
    rcases st with _ | ⟨v0, st⟩
    · generalize hre : M.2.2.2.1 = ret at hdr hr
      cases ret with
      | none =>
        obtain rfl := Option.some.inj hdr
        exact W.vret hx hb hr hq hf hdec (hlocks := hlk)
      | some ty => exact absurd hdr (by simp)
    · exact absurd hdr (by simp)
  all_goals exact absurd (show (none : Option (Option Value)) = some r from hdr) (by simp)
end AMU
theorem am_kd_cases (i : Instr) (x : am_X) : am_kd i x = 0 ∨ am_kd i x = 1 ∨ am_kd i x = 2 ∨ am_kd i x = 3 := by
  cases i
  case invokespecial k =>
    show (bif x.1 == 1002 then 0 else 1) = 0 ∨ (bif x.1 == 1002 then 0 else 1) = 1 ∨ _
    cases (x.1 == 1002)
    · exact Or.inr (Or.inl rfl)
    · exact Or.inl rfl
  case invokestatic k =>
    show (bif x.1 == 1000 then 0 else bif x.1 == 1001 then 0 else 1) = 0 ∨ (bif x.1 == 1000 then 0 else bif x.1 == 1001 then 0 else 1) = 1 ∨ _
    cases (x.1 == 1000)
    · cases (x.1 == 1001)
      · exact Or.inr (Or.inl rfl)
      · exact Or.inl rfl
    · exact Or.inl rfl
  all_goals first
    | exact Or.inl rfl
    | exact Or.inr (Or.inl rfl)
    | exact Or.inr (Or.inr (Or.inl rfl))
    | exact Or.inr (Or.inr (Or.inr rfl))
/-- THE ABSTRACT MACHINE IS RIGHT: with fuel n -/
def am_S (C : am_C) (G : List Cond) (D : va_G) (cI cC : ClassId) (base b t n : Nat) : Prop :=
  ∀ (d mi pc : Nat) (lv : am_V) (st : List Value) (h : List am_E) (o : Option Value × List am_E × Nat × Nat), am_run C n d mi pc lv st h = some o →
  ∀ (p : Program) (l : Launch) (e : Env) (R : Room) (s : State) (m : MethodId) (args : Array Value) (below : List Frame) (meth : Method) (c : Code) (M : am_M) (H : Heap) (locs : List Loc) (cells slots : Nat) (Q : State → Prop) (ls : Array Slot),
    C.1[mi]? = some M → am_F C G D cI cC base b t p s m args meth c M → am_N C D cI cC base b t s cells h H locs → lv_has ls M.2.2.1 (am_lm base b t lv) → (d ≤ R.frames ∧ 64 * d ≤ R.locals) → cells + o.2.2.1 ≤ R.cells → slots + o.2.2.2 ≤ R.slots →
    (∀ (pc1 : Nat) (i1 : Instr) (len1 : Nat) (x1 : am_X) (ls1 : Array Slot) (H1 : Heap) (locs1 : List Loc) (st1 : List Value), am_ok C G M (pc1, i1, len1, x1) → am_dr M.2.2.2.1 i1 st1 = some o.1 → am_N C D cI cC base b t s (cells + o.2.2.1) o.2.1 H1 locs1 →
      W p l e R s m args below meth c H1 locs1 (cells + o.2.2.1) (slots + o.2.2.2) Q (F0 m pc1 ls1 (st1.map (am_tr base b t)))) →
    W p l e R s m args below meth c H locs cells slots Q (F0 m pc ls (st.map (am_tr base b t)))
theorem am_met {C : am_C} {G : List Cond} {D : va_G} {cI cC : ClassId} {base b t n d cal c1 s1 : Nat} {vs : List Value} {h h1 : List am_E} {r : Option Value} {N : am_M} {l : Launch} (O : am_OK C G) (S : am_S C G D cI cC base b t n) (hN : C.1[cal]? = some N) (hc0 : cal ≠ 0) (hsl : (lg_sl vs).length ≤ N.2.2.1) (hrun : am_run C n d cal 0 (lv_args 0 vs) [] h = some (r, h1, c1, s1)) :
    Met l N.1 (Cond.code N.1 N.2.1 N.2.2.1 N.2.2.2.1 :: G) (am_rm d c1 s1) (am_Pc C D cI cC base b t vs h) (am_Qc C D cI cC base b t r h h1 c1) c1 s1 (am_A base) := by
  have hmc := (O.2.2 cal N hN).2 hc0
  refine Met.ofW (cc := N.2.1) (maxL := N.2.2.1) (ret := N.2.2.2.1) hmc.2.2.1 rfl ?_
  intro p e s m args below meth c s₁ B hml hv
  obtain ⟨rfl, hsz, hP, hK, hOld⟩ := hv
  have hts := atoms_spec (ws := Cond.code N.1 N.2.1 N.2.2.1 N.2.2.2.1 :: G) B.pre
  have hown : s.vm.findClass N.1.cls = some m.cls := findClass_of_methodNamed B.named
  have hnm := (name_of_methodNamed B.named B.method).1
  have hl := lv_entry (vs.map (am_tr base b t)) (n := N.2.2.1) (by rw [am_sl_tr]; exact hsl)
  rw [lg_entry_eq]
  generalize (lg_sl (vs.map (am_tr base b t)) ++ List.replicate (N.2.2.1 - (lg_sl (vs.map (am_tr base b t))).length) Slot.unset).toArray = ls at hl ⊢
  rw [am_args_tr] at hl
  have F : am_F C G D cI cC base b t p s m (vs.map (am_tr base b t)).toArray meth c N := ⟨B.exec, B.bytes, hml, hown, fun w hw => hts w (List.mem_cons_of_mem _ hw), B.returns, B.notSynchronized, fun hi => hnm.trans hi, hK, hOld, by rw [hsz]; exact Nat.le_add_right _ _⟩
  refine S d cal 0 _ [] h _ hrun p l e _ s m _ below meth c N s.heap [] 0 0 _ ls hN F ⟨hP, by rw [hsz]; rfl, va_S.rf⟩ hl ⟨Nat.le_refl _, Nat.le_refl _⟩ (by show 0 + c1 ≤ c1; omega) (by show 0 + s1 ≤ s1; omega) ?_
  intro pc1 i1 len1 x1 ls1 H1 locs1 st1 hok hdr I1
  have I1 : am_N C D cI cC base b t s (0 + c1) h1 H1 locs1 := I1
  have hlen : h1.length = h.length + c1 := by have := I1.2.1; rw [hsz] at this; omega
  show W p l e _ s m _ below meth c H1 locs1 (0 + c1) (0 + s1) _ _
  rw [Nat.zero_add, Nat.zero_add]
  exact am_ret F hok hdr (fun u hu hW => ⟨⟨rfl, hlen, by rw [hu]; exact I1.1⟩, I1.2.2.F hu⟩) I1.2.2.2.2
theorem am_sim {C : am_C} {G : List Cond} {D : va_G} {cI cC : ClassId} {base b t : Nat} (O : am_OK C G) : ∀ n, am_S C G D cI cC base b t n := by
  intro n
  induction n with
  | zero =>
    intro d mi pc lv st h o hrun
    cases (show (none : Option (Option Value × List am_E × Nat × Nat)) = some o from hrun)
  | succ n ih =>
    intro d mi pc lv st h o hrun p l e R s m args below meth c M H locs cells slots Q ls hM F I hl hd hc hs hfin
    rw [am_run] at hrun
    cases hat : am_at C mi pc with
    | none => rw [hat] at hrun; cases hrun
    | some q =>
      obtain ⟨i, len, x⟩ := q
      rw [hat] at hrun
      have hat2 : am_ix M.2.2.2.2 pc = some (i, len, x) := by
        unfold am_at at hat
        rw [hM] at hat
        exact hat
      have hok : am_ok C G M (pc, i, len, x) := (O.2.2 mi M hM).1 _ (am_ix_mem hat2)
      have hrt : am_rt C mi = M.2.2.2.1 := by
        unfold am_rt
        rw [hM]
      rcases am_kd_cases i x with hkd | hkd | hkd | hkd
      · simp only [hkd] at hrun
        cases hdo : am_do C d i x pc lv st h with
        | none => rw [hdo] at hrun; cases hrun
        | some z =>
          rw [hdo] at hrun
          exact am_pl O F I hl hd ⟨by omega, by omega⟩ hok hkd hdo (fun ls1 H1 locs1 I1 hl1 => ih d mi z.1 z.2.1 z.2.2.1 z.2.2.2 o hrun p l e R s m args below meth c M H1 locs1 cells slots Q ls1 hM F I1 hl1 hd hc hs hfin)
      · simp only [hkd] at hrun
        cases hdc : am_dc C i x st h with
        | none => rw [hdc] at hrun; cases hrun
        | some z =>
          rw [hdc] at hrun
          cases d with
          | zero => cases hrun
          | succ d1 =>
            simp only at hrun
            cases hr1 : am_run C n d1 z.1 0 (lv_args 0 z.2.1) [] h with
            | none => rw [hr1] at hrun; cases hrun
            | some o1 =>
              rw [hr1] at hrun
              simp only at hrun
              cases hr2 : am_run C n (d1 + 1) mi (pc + 3) lv (o1.1.toList ++ z.2.2) o1.2.1 with
              | none => rw [hr2] at hrun; cases hrun
              | some o2 =>
                rw [hr2] at hrun
                obtain rfl := Option.some.inj hrun
                obtain ⟨r1, h1, c1, s1⟩ := o1
                obtain ⟨r2, h2, c2, s2⟩ := o2
                have hc : cells + (c1 + c2) ≤ R.cells := hc
                have hs : slots + (s1 + s2) ≤ R.slots := hs
                refine am_pc (c1 := c1) (s1 := s1) (r := r1) (h1 := h1) O F I hl hd ⟨by omega, by omega⟩ hok hkd hdc (fun N hN hne hsl => am_met O ih hN hne hsl hr1) (fun H1 locs1 I1 => ?_)
                refine ih (d1 + 1) mi (pc + 3) lv _ h1 _ hr2 p l e R s m args below meth c M H1 locs1 (cells + c1) (slots + s1) Q ls hM F I1 hl hd (by show cells + c1 + c2 ≤ _; omega) (by show slots + s1 + s2 ≤ _; omega) ?_
                intro pc1 i1 len1 x1 ls1 H2 locs2 st1 hok1 hdr1 I2
                have K := hfin pc1 i1 len1 x1 ls1 H2 locs2 st1 hok1 hdr1
                have K : am_N C D cI cC base b t s (cells + (c1 + c2)) h2 H2 locs2 → W p l e R s m args below meth c H2 locs2 (cells + (c1 + c2)) (slots + (s1 + s2)) Q (F0 m pc1 ls1 (st1.map (am_tr base b t))) := K
                rw [← Nat.add_assoc, ← Nat.add_assoc] at K
                exact K I2
      · simp only [hkd] at hrun
        cases hdn : am_dn C i x pc st with
        | none => rw [hdn] at hrun; cases hrun
        | some z =>
          rw [hdn] at hrun
          simp only at hrun
          cases hr2 : am_run C n d mi z.1 lv (.ref (h.length + 2) :: z.2.1) (h ++ [z.2.2.1]) with
          | none => rw [hr2] at hrun; cases hrun
          | some o2 =>
            rw [hr2] at hrun
            obtain rfl := Option.some.inj hrun
            obtain ⟨r2, h2, c2, s2⟩ := o2
            have hc : cells + (1 + c2) ≤ R.cells := hc
            have hs : slots + (z.2.2.2 + s2) ≤ R.slots := hs
            refine am_pn O F I hl ⟨by omega, by omega⟩ hok hdn (fun H1 I1 => ?_)
            refine ih d mi z.1 lv _ _ _ hr2 p l e R s m args below meth c M H1 locs (cells + 1) (slots + z.2.2.2) Q ls hM F I1 hl hd (by show cells + 1 + c2 ≤ _; omega) (by show slots + z.2.2.2 + s2 ≤ _; omega) ?_
            intro pc1 i1 len1 x1 ls1 H2 locs2 st1 hok1 hdr1 I2
            have K := hfin pc1 i1 len1 x1 ls1 H2 locs2 st1 hok1 hdr1
            have K : am_N C D cI cC base b t s (cells + (1 + c2)) h2 H2 locs2 → W p l e R s m args below meth c H2 locs2 (cells + (1 + c2)) (slots + (z.2.2.2 + s2)) Q (F0 m pc1 ls1 (st1.map (am_tr base b t))) := K
            rw [← Nat.add_assoc, ← Nat.add_assoc] at K
            exact K I2
      · simp only [hkd] at hrun
        rw [hrt] at hrun
        cases hdr : am_dr M.2.2.2.1 i st with
        | none => rw [hdr] at hrun; cases hrun
        | some r =>
          rw [hdr] at hrun
          obtain rfl := Option.some.inj hrun
          exact hfin pc i len x ls H locs st hok hdr I
end
section
/-! Runs of the abstract machine put together; more fuel, and the script laid beside, change nothing. -/
theorem am_ld_mono {tg : Bool} {xs : Option (List Int32)} {pc : Nat} {lv : am_V} {st : List Value} {h : List am_E} {z : am_Z} (hdo : am_ld tg none pc lv st h = some z) : am_ld tg xs pc lv st h = some z := by
  obtain ⟨i, r, v, h0, rfl, hc⟩ := am_ld_inv hdo
  rcases hc with ⟨rfl, rfl, hv⟩ | ⟨j, a, rfl, hj, hv⟩
  · simp at hv
  · simp [am_ld, am_ar, hj, hv, h0]
theorem am_len_mono {xs : Option (List Int32)} {wd : List Int64} {pc : Nat} {lv : am_V} {st : List Value} {h : List am_E} {z : am_Z} (hdo : am_len none wd pc lv st h = some z) : am_len xs wd pc lv st h = some z := by
  rcases st with _ | ⟨v0, r⟩
  · exact absurd hdo (by simp [am_len])
  · cases v0 with
    | ref a =>
      match a, hdo with
      | 0, hdo => exact absurd hdo (by simp [am_len])
      | 1, hdo => exact hdo
      | j + 2, hdo => exact hdo
    | _ => exact absurd hdo (by simp [am_len])
theorem am_do_mono {P : List am_M} {cl : List vw_C} {ty : Nat → Nat → FieldType} {xs ys : Option (List Int32)} {wd : List Int64} (hxs : xs = none ∨ xs = ys) {d : Nat} {i : Instr} {x : am_X} {pc : Nat} {lv : am_V} {st : List Value} {h : List am_E} {z : am_Z} (hdo : am_do (P, cl, ty, xs, wd) d i x pc lv st h = some z) : am_do (P, cl, ty, ys, wd) d i x pc lv st h = some z := by
  rcases hxs with rfl | rfl
  · cases i
    case iaload => exact am_ld_mono hdo
    case caload => exact am_ld_mono hdo
    case arraylength => exact am_len_mono hdo
    all_goals exact hdo
  · exact hdo
theorem am_mono {P : List am_M} {cl : List vw_C} {ty : Nat → Nat → FieldType} {xs ys : Option (List Int32)} {wd : List Int64} (hxs : xs = none ∨ xs = ys) : ∀ n n' : Nat, n ≤ n' → ∀ (d mi pc : Nat) (lv : am_V) (st : List Value) (h : List am_E) (o : Option Value × List am_E × Nat × Nat), am_run (P, cl, ty, xs, wd) n d mi pc lv st h = some o → am_run (P, cl, ty, ys, wd) n' d mi pc lv st h = some o := by
  intro n
  induction n with
  | zero =>
    intro n' _ d mi pc lv st h o hrun
    cases (show (none : Option (Option Value × List am_E × Nat × Nat)) = some o from hrun)
  | succ n ih =>
    intro n' hn d mi pc lv st h o hrun
    obtain ⟨k, rfl⟩ : ∃ k, n' = k + 1 := ⟨n' - 1, by omega⟩
    have hk : n ≤ k := by omega
    rw [am_run] at hrun ⊢
    have e1 : am_at (P, cl, ty, ys, wd) mi pc = am_at (P, cl, ty, xs, wd) mi pc := rfl
    rw [e1]
    cases hat : am_at (P, cl, ty, xs, wd) mi pc with
    | none => rw [hat] at hrun; cases hrun
    | some q =>
      rw [hat] at hrun
      rcases am_kd_cases q.1 q.2.2 with hkd | hkd | hkd | hkd
      · simp only [hkd] at hrun ⊢
        cases hdo : am_do (P, cl, ty, xs, wd) d q.1 q.2.2 pc lv st h with
        | none => rw [hdo] at hrun; cases hrun
        | some z =>
          rw [hdo] at hrun
          rw [am_do_mono hxs hdo]
          exact ih k hk d mi _ _ _ _ o hrun
      · simp only [hkd] at hrun ⊢
        have e2 : am_dc (P, cl, ty, ys, wd) q.1 q.2.2 st h = am_dc (P, cl, ty, xs, wd) q.1 q.2.2 st h := rfl
        rw [e2]
        cases hdc : am_dc (P, cl, ty, xs, wd) q.1 q.2.2 st h with
        | none => rw [hdc] at hrun; cases hrun
        | some z =>
          rw [hdc] at hrun
          cases d with
          | zero => cases hrun
          | succ d1 =>
            simp only at hrun ⊢
            cases hr1 : am_run (P, cl, ty, xs, wd) n d1 z.1 0 (lv_args 0 z.2.1) [] h with
            | none => rw [hr1] at hrun; cases hrun
            | some o1 =>
              rw [hr1] at hrun
              rw [ih k hk d1 _ _ _ _ _ o1 hr1]
              simp only at hrun ⊢
              cases hr2 : am_run (P, cl, ty, xs, wd) n (d1 + 1) mi (pc + 3) lv (o1.1.toList ++ z.2.2) o1.2.1 with
              | none => rw [hr2] at hrun; cases hrun
              | some o2 =>
                rw [hr2] at hrun
                rw [ih k hk (d1 + 1) _ _ _ _ _ o2 hr2]
                exact hrun
      · simp only [hkd] at hrun ⊢
        have e2 : am_dn (P, cl, ty, ys, wd) q.1 q.2.2 pc st = am_dn (P, cl, ty, xs, wd) q.1 q.2.2 pc st := rfl
        rw [e2]
        cases hdn : am_dn (P, cl, ty, xs, wd) q.1 q.2.2 pc st with
        | none => rw [hdn] at hrun; cases hrun
        | some z =>
          rw [hdn] at hrun
          simp only at hrun ⊢
          cases hr2 : am_run (P, cl, ty, xs, wd) n d mi z.1 lv (.ref (h.length + 2) :: z.2.1) (h ++ [z.2.2.1]) with
          | none => rw [hr2] at hrun; cases hrun
          | some o2 =>
            rw [hr2] at hrun
            rw [ih k hk d _ _ _ _ _ o2 hr2]
            exact hrun
      · simp only [hkd] at hrun ⊢
        have e2 : am_rt (P, cl, ty, ys, wd) mi = am_rt (P, cl, ty, xs, wd) mi := rfl
        rw [e2]
        exact hrun
/-- the run comes to its end with o -/
def am_G (C : am_C) (d mi pc : Nat) (lv : am_V) (st : List Value) (h : List am_E) (o : Option Value × List am_E × Nat × Nat) : Prop := ∃ n, am_run C n d mi pc lv st h = some o
theorem am_gx {P : List am_M} {cl : List vw_C} {ty : Nat → Nat → FieldType} {wd : List Int64} (ys : Option (List Int32)) {n d mi pc : Nat} {lv : am_V} {st : List Value} {h : List am_E} {o : Option Value × List am_E × Nat × Nat} (hr : am_run (P, cl, ty, none, wd) n d mi pc lv st h = some o) : am_G (P, cl, ty, ys, wd) d mi pc lv st h o := ⟨n, am_mono (Or.inl rfl) n n (Nat.le_refl n) d mi pc lv st h o hr⟩
theorem am_g0 {C : am_C} {d mi pc : Nat} {lv : am_V} {st : List Value} {h : List am_E} {o : Option Value × List am_E × Nat × Nat} {q : Instr × Nat × am_X} {z : am_Z} (hat : am_at C mi pc = some q) (hkd : am_kd q.1 q.2.2 = 0) (hdo : am_do C d q.1 q.2.2 pc lv st h = some z) (hg : am_G C d mi z.1 z.2.1 z.2.2.1 z.2.2.2 o) : am_G C d mi pc lv st h o := by
  obtain ⟨n, hn⟩ := hg
  refine ⟨n + 1, ?_⟩
  rw [am_run, hat]
  simp only [hkd, hdo]
  exact hn
theorem am_g1 {C : am_C} {d mi pc : Nat} {lv : am_V} {st : List Value} {h : List am_E} {o1 o2 : Option Value × List am_E × Nat × Nat} {q : Instr × Nat × am_X} {z : Nat × List Value × List Value} (hat : am_at C mi pc = some q) (hkd : am_kd q.1 q.2.2 = 1) (hdc : am_dc C q.1 q.2.2 st h = some z) (hg1 : am_G C d z.1 0 (lv_args 0 z.2.1) [] h o1) (hg2 : am_G C (d + 1) mi (pc + 3) lv (o1.1.toList ++ z.2.2) o1.2.1 o2) : am_G C (d + 1) mi pc lv st h (o2.1, o2.2.1, o1.2.2.1 + o2.2.2.1, o1.2.2.2 + o2.2.2.2) := by
  obtain ⟨n1, hn1⟩ := hg1
  obtain ⟨n2, hn2⟩ := hg2
  obtain ⟨P, cl, ty, xs, wd⟩ := C
  refine ⟨max n1 n2 + 1, ?_⟩
  have m1 := am_mono (xs := xs) (Or.inr rfl) n1 (max n1 n2) (Nat.le_max_left _ _) _ _ _ _ _ _ _ hn1
  have m2 := am_mono (xs := xs) (Or.inr rfl) n2 (max n1 n2) (Nat.le_max_right _ _) _ _ _ _ _ _ _ hn2
  rw [am_run, hat]
  simp only [hkd, hdc, m1, m2]
theorem am_g2 {C : am_C} {d mi pc : Nat} {lv : am_V} {st : List Value} {h : List am_E} {o : Option Value × List am_E × Nat × Nat} {q : Instr × Nat × am_X} {z : Nat × List Value × am_E × Nat} (hat : am_at C mi pc = some q) (hkd : am_kd q.1 q.2.2 = 2) (hdn : am_dn C q.1 q.2.2 pc st = some z) (hg : am_G C d mi z.1 lv (.ref (h.length + 2) :: z.2.1) (h ++ [z.2.2.1]) o) : am_G C d mi pc lv st h (o.1, o.2.1, 1 + o.2.2.1, z.2.2.2 + o.2.2.2) := by
  obtain ⟨n, hn⟩ := hg
  refine ⟨n + 1, ?_⟩
  rw [am_run, hat]
  simp only [hkd, hdn, hn]
theorem am_g3 {C : am_C} {d mi pc : Nat} {lv : am_V} {st : List Value} {h : List am_E} {q : Instr × Nat × am_X} {r : Option Value} (hat : am_at C mi pc = some q) (hkd : am_kd q.1 q.2.2 = 3) (hdr : am_dr (am_rt C mi) q.1 st = some r) : am_G C d mi pc lv st h (r, h, 0, 0) := by
  refine ⟨1, ?_⟩
  rw [am_run, hat]
  simp only [hkd, hdr]
/-- k steps -/
def am_ks (C : am_C) (d mi : Nat) : Nat → am_Z → Option am_Z
  | 0, z => some z
  | k + 1, z => match am_at C mi z.1 with
    | none => none
    | some q => bif am_kd q.1 q.2.2 == 0 then (match am_do C d q.1 q.2.2 z.1 z.2.1 z.2.2.1 z.2.2.2 with
      | none => none
      | some y => am_ks C d mi k y) else none
theorem am_gk {C : am_C} {d mi : Nat} {o : Option Value × List am_E × Nat × Nat} (k : Nat) : ∀ {y z : am_Z}, am_ks C d mi k y = some z → am_G C d mi z.1 z.2.1 z.2.2.1 z.2.2.2 o → am_G C d mi y.1 y.2.1 y.2.2.1 y.2.2.2 o := by
  induction k with
  | zero =>
    intro y z hk hg
    cases (show some y = some z from hk)
    exact hg
  | succ k ih =>
    intro y z hk hg
    rw [am_ks] at hk
    cases hat : am_at C mi y.1 with
    | none => rw [hat] at hk; cases hk
    | some q =>
      rw [hat] at hk
      simp only at hk
      cases hkd : (am_kd q.1 q.2.2 == 0) with
      | false => rw [hkd] at hk; cases hk
      | true =>
        rw [hkd, cond_true] at hk
        cases hdo : am_do C d q.1 q.2.2 y.1 y.2.1 y.2.2.1 y.2.2.2 with
        | none => rw [hdo] at hk; cases hk
        | some w =>
          rw [hdo] at hk
          exact am_g0 hat (eq_of_beq hkd) hdo (ih hk hg)
/-- k steps that lead from a frame to a frame; then the rest -/
theorem am_gn {C : am_C} {d mi : Nat} {o : Option Value × List am_E × Nat × Nat} (k : Nat) {pc pc1 : Nat} {lv lv1 : am_V} {st st1 : List Value} {h h1 : List am_E} (hk : am_ks C d mi k (pc, lv, st, h) = some (pc1, lv1, st1, h1)) (hg : am_G C d mi pc1 lv1 st1 h1 o) : am_G C d mi pc lv st h o := am_gk k (y := (pc, lv, st, h)) (z := (pc1, lv1, st1, h1)) hk hg
/-- a branch on a number against zero -/
theorem am_gb1 {C : am_C} {d mi pc : Nat} {lv : am_V} {st : List Value} {h : List am_E} {o : Option Value × List am_E × Nat × Nat} {c : ClassFile.Cond} {off : Int} {len : Nat} {x : am_X} {a : Int32} (hat : am_at C mi pc = some (.ifCond c off, len, x)) (bb : Bool) (hc : am_if c a 0 = bb) {pc1 : Nat} (hpc : (bif bb then x.1 else pc + 3) = pc1) (hg : am_G C d mi pc1 lv st h o) : am_G C d mi pc lv (.int a :: st) h o := by
  refine am_g0 (z := (pc1, lv, st, h)) hat rfl ?_ hg
  show am_b1 c x.1 pc lv (.int a :: st) h = _
  unfold am_b1
  simp only [hc, hpc]
/-- a branch on two numbers -/
theorem am_gb2 {C : am_C} {d mi pc : Nat} {lv : am_V} {st : List Value} {h : List am_E} {o : Option Value × List am_E × Nat × Nat} {c : ClassFile.Cond} {off : Int} {len : Nat} {x : am_X} {a y : Int32} (hat : am_at C mi pc = some (.if_icmp c off, len, x)) (bb : Bool) (hc : am_if c a y = bb) {pc1 : Nat} (hpc : (bif bb then x.1 else pc + 3) = pc1) (hg : am_G C d mi pc1 lv st h o) : am_G C d mi pc lv (.int y :: .int a :: st) h o := by
  refine am_g0 (z := (pc1, lv, st, h)) hat rfl ?_ hg
  show am_b2 c x.1 pc lv (.int y :: .int a :: st) h = _
  unfold am_b2
  simp only [hc, hpc]
theorem am_gli {C : am_C} {d mi pc : Nat} {lv : am_V} {st : List Value} {h : List am_E} {o : Option Value × List am_E × Nat × Nat} {len : Nat} {x : am_X} {i v : Int32} {a : Nat} {l : List Int32} (hat : am_at C mi pc = some (.iaload, len, x)) (ha : am_ar h a = some (false, l)) (h0 : ¬ i < 0) (hv : l[i.toNatClampNeg]? = some v) (hg : am_G C d mi (pc + 1) lv (.int v :: st) h o) : am_G C d mi pc lv (.int i :: .ref a :: st) h o := by
  refine am_g0 (z := (pc + 1, lv, .int v :: st, h)) hat rfl ?_ hg
  obtain ⟨k, rfl, -⟩ := am_ar_at ha
  show am_ld false C.2.2.2.1 pc lv (.int i :: .ref (k + 2) :: st) h = _
  simp [am_ld, ha, h0, hv]
theorem am_glc {C : am_C} {d mi pc : Nat} {lv : am_V} {st : List Value} {h : List am_E} {o : Option Value × List am_E × Nat × Nat} {len : Nat} {x : am_X} {i v : Int32} {a : Nat} {l : List Int32} (hat : am_at C mi pc = some (.caload, len, x)) (ha : am_ar h a = some (true, l)) (h0 : ¬ i < 0) (hv : l[i.toNatClampNeg]? = some v) (hg : am_G C d mi (pc + 1) lv (.int v :: st) h o) : am_G C d mi pc lv (.int i :: .ref a :: st) h o := by
  refine am_g0 (z := (pc + 1, lv, .int v :: st, h)) hat rfl ?_ hg
  obtain ⟨k, rfl, -⟩ := am_ar_at ha
  show am_ld true C.2.2.2.1 pc lv (.int i :: .ref (k + 2) :: st) h = _
  simp [am_ld, ha, h0, hv]
theorem am_gsi {C : am_C} {d mi pc : Nat} {lv : am_V} {st : List Value} {h h1 : List am_E} {o : Option Value × List am_E × Nat × Nat} {len : Nat} {x : am_X} {i v : Int32} {a : Nat} {l : List Int32} (hat : am_at C mi pc = some (.iastore, len, x)) (ha : am_ar h a = some (false, l)) (h0 : ¬ i < 0) (hi : i.toNatClampNeg < l.length) (hh : h.set (a - 2) (.inl (false, l.set i.toNatClampNeg v)) = h1) (hg : am_G C d mi (pc + 1) lv st h1 o) : am_G C d mi pc lv (.int v :: .int i :: .ref a :: st) h o := by
  refine am_g0 (z := (pc + 1, lv, st, h1)) hat rfl ?_ hg
  subst hh
  show am_sto false pc lv (.int v :: .int i :: .ref a :: st) h = _
  simp [am_sto, ha, h0, hi]
theorem am_gsc {C : am_C} {d mi pc : Nat} {lv : am_V} {st : List Value} {h h1 : List am_E} {o : Option Value × List am_E × Nat × Nat} {len : Nat} {x : am_X} {i v : Int32} {a : Nat} {l : List Int32} (hat : am_at C mi pc = some (.castore, len, x)) (ha : am_ar h a = some (true, l)) (h0 : ¬ i < 0) (hi : i.toNatClampNeg < l.length) (hh : h.set (a - 2) (.inl (true, l.set i.toNatClampNeg (vp_nar .char v))) = h1) (hg : am_G C d mi (pc + 1) lv st h1 o) : am_G C d mi pc lv (.int v :: .int i :: .ref a :: st) h o := by
  refine am_g0 (z := (pc + 1, lv, st, h1)) hat rfl ?_ hg
  subst hh
  show am_sto true pc lv (.int v :: .int i :: .ref a :: st) h = _
  simp [am_sto, ha, h0, hi]
/-- the script -/
theorem am_gls {C : am_C} {d mi pc : Nat} {lv : am_V} {st : List Value} {h : List am_E} {o : Option Value × List am_E × Nat × Nat} {len : Nat} {x : am_X} {i v : Int32} {l : List Int32} (hat : am_at C mi pc = some (.iaload, len, x)) (ha : C.2.2.2.1 = some l) (h0 : ¬ i < 0) (hv : l[i.toNatClampNeg]? = some v) (hg : am_G C d mi (pc + 1) lv (.int v :: st) h o) : am_G C d mi pc lv (.int i :: .ref 0 :: st) h o := by
  refine am_g0 (z := (pc + 1, lv, .int v :: st, h)) hat rfl ?_ hg
  show am_ld false C.2.2.2.1 pc lv (.int i :: .ref 0 :: st) h = _
  simp [am_ld, ha, h0, hv]
theorem am_gsw {C : am_C} {d mi pc : Nat} {lv : am_V} {st : List Value} {h : List am_E} {o : Option Value × List am_E × Nat × Nat} {len : Nat} {x : am_X} {dflt lo hi : Int} {offs : Array Int} {a : Int32} {tgt : Nat} (hat : am_at C mi pc = some (.tableswitch dflt lo hi offs, len, x)) (ht : am_ts dflt lo hi offs pc a = some tgt) (hg : am_G C d mi tgt lv st h o) : am_G C d mi pc lv (.int a :: st) h o := by
  refine am_g0 (z := (tgt, lv, st, h)) hat rfl ?_ hg
  show am_sw (am_ts dflt lo hi offs pc) lv (.int a :: st) h = _
  simp [am_sw, ht]
/-! Ends of runs that make no cell, by what holds of them. -/
def am_W (C : am_C) (d mi pc : Nat) (lv : am_V) (st : List Value) (h : List am_E) (Q : Option Value → List am_E → Prop) : Prop := ∃ (r : Option Value) (h1 : List am_E), am_G C d mi pc lv st h (r, h1, 0, 0) ∧ Q r h1
section AMW
variable {C : am_C} {d mi pc : Nat} {lv : am_V} {st : List Value} {h : List am_E} {Q : Option Value → List am_E → Prop}
theorem am_wn (k : Nat) {pc1 : Nat} {lv1 : am_V} {st1 : List Value} {h1 : List am_E} (hk : am_ks C d mi k (pc, lv, st, h) = some (pc1, lv1, st1, h1)) (hg : am_W C d mi pc1 lv1 st1 h1 Q) : am_W C d mi pc lv st h Q := by
  obtain ⟨r, h2, hg, hQ⟩ := hg
  exact ⟨r, h2, am_gn k hk hg, hQ⟩
theorem am_w0 {q : Instr × Nat × am_X} {z : am_Z} (hat : am_at C mi pc = some q) (hkd : am_kd q.1 q.2.2 = 0) (hdo : am_do C d q.1 q.2.2 pc lv st h = some z) (hg : am_W C d mi z.1 z.2.1 z.2.2.1 z.2.2.2 Q) : am_W C d mi pc lv st h Q := by
  obtain ⟨r, h2, hg, hQ⟩ := hg
  exact ⟨r, h2, am_g0 hat hkd hdo hg, hQ⟩
theorem am_wb1 {c : ClassFile.Cond} {off : Int} {len : Nat} {x : am_X} {a : Int32} (hat : am_at C mi pc = some (.ifCond c off, len, x)) (bb : Bool) (hc : am_if c a 0 = bb) {pc1 : Nat} (hpc : (bif bb then x.1 else pc + 3) = pc1) (hg : am_W C d mi pc1 lv st h Q) : am_W C d mi pc lv (.int a :: st) h Q := by
  obtain ⟨r, h2, hg, hQ⟩ := hg
  exact ⟨r, h2, am_gb1 hat bb hc hpc hg, hQ⟩
theorem am_wb2 {c : ClassFile.Cond} {off : Int} {len : Nat} {x : am_X} {a y : Int32} (hat : am_at C mi pc = some (.if_icmp c off, len, x)) (bb : Bool) (hc : am_if c a y = bb) {pc1 : Nat} (hpc : (bif bb then x.1 else pc + 3) = pc1) (hg : am_W C d mi pc1 lv st h Q) : am_W C d mi pc lv (.int y :: .int a :: st) h Q := by
  obtain ⟨r, h2, hg, hQ⟩ := hg
  exact ⟨r, h2, am_gb2 hat bb hc hpc hg, hQ⟩
theorem am_wsw {len : Nat} {x : am_X} {dflt lo hi : Int} {offs : Array Int} {a : Int32} {tgt : Nat} (hat : am_at C mi pc = some (.tableswitch dflt lo hi offs, len, x)) (ht : am_ts dflt lo hi offs pc a = some tgt) (hg : am_W C d mi tgt lv st h Q) : am_W C d mi pc lv (.int a :: st) h Q := by
  obtain ⟨r, h2, hg, hQ⟩ := hg
  exact ⟨r, h2, am_gsw hat ht hg, hQ⟩
theorem am_wli {len : Nat} {x : am_X} {i v : Int32} {a : Nat} {l : List Int32} (hat : am_at C mi pc = some (.iaload, len, x)) (ha : am_ar h a = some (false, l)) (h0 : ¬ i < 0) (hv : l[i.toNatClampNeg]? = some v) (hg : am_W C d mi (pc + 1) lv (.int v :: st) h Q) : am_W C d mi pc lv (.int i :: .ref a :: st) h Q := by
  obtain ⟨r, h2, hg, hQ⟩ := hg
  exact ⟨r, h2, am_gli hat ha h0 hv hg, hQ⟩
theorem am_wlc {len : Nat} {x : am_X} {i v : Int32} {a : Nat} {l : List Int32} (hat : am_at C mi pc = some (.caload, len, x)) (ha : am_ar h a = some (true, l)) (h0 : ¬ i < 0) (hv : l[i.toNatClampNeg]? = some v) (hg : am_W C d mi (pc + 1) lv (.int v :: st) h Q) : am_W C d mi pc lv (.int i :: .ref a :: st) h Q := by
  obtain ⟨r, h2, hg, hQ⟩ := hg
  exact ⟨r, h2, am_glc hat ha h0 hv hg, hQ⟩
theorem am_wls {len : Nat} {x : am_X} {i v : Int32} {l : List Int32} (hat : am_at C mi pc = some (.iaload, len, x)) (ha : C.2.2.2.1 = some l) (h0 : ¬ i < 0) (hv : l[i.toNatClampNeg]? = some v) (hg : am_W C d mi (pc + 1) lv (.int v :: st) h Q) : am_W C d mi pc lv (.int i :: .ref 0 :: st) h Q := by
  obtain ⟨r, h2, hg, hQ⟩ := hg
  exact ⟨r, h2, am_gls hat ha h0 hv hg, hQ⟩
theorem am_wsi {h1 : List am_E} {len : Nat} {x : am_X} {i v : Int32} {a : Nat} {l : List Int32} (hat : am_at C mi pc = some (.iastore, len, x)) (ha : am_ar h a = some (false, l)) (h0 : ¬ i < 0) (hi : i.toNatClampNeg < l.length) (hh : h.set (a - 2) (.inl (false, l.set i.toNatClampNeg v)) = h1) (hg : am_W C d mi (pc + 1) lv st h1 Q) : am_W C d mi pc lv (.int v :: .int i :: .ref a :: st) h Q := by
  obtain ⟨r, h2, hg, hQ⟩ := hg
  exact ⟨r, h2, am_gsi hat ha h0 hi hh hg, hQ⟩
theorem am_wsc {h1 : List am_E} {len : Nat} {x : am_X} {i v : Int32} {a : Nat} {l : List Int32} (hat : am_at C mi pc = some (.castore, len, x)) (ha : am_ar h a = some (true, l)) (h0 : ¬ i < 0) (hi : i.toNatClampNeg < l.length) (hh : h.set (a - 2) (.inl (true, l.set i.toNatClampNeg (vp_nar .char v))) = h1) (hg : am_W C d mi (pc + 1) lv st h1 Q) : am_W C d mi pc lv (.int v :: .int i :: .ref a :: st) h Q := by
  obtain ⟨r, h2, hg, hQ⟩ := hg
  exact ⟨r, h2, am_gsc hat ha h0 hi hh hg, hQ⟩
/-- a call: its end goes on with the caller -/
theorem am_wc {q : Instr × Nat × am_X} {z : Nat × List Value × List Value} (hat : am_at C mi pc = some q) (hkd : am_kd q.1 q.2.2 = 1) (hdc : am_dc C q.1 q.2.2 st h = some z) (hg : am_W C d z.1 0 (lv_args 0 z.2.1) [] h (fun r h1 => am_W C (d + 1) mi (pc + 3) lv (r.toList ++ z.2.2) h1 Q)) : am_W C (d + 1) mi pc lv st h Q := by
  obtain ⟨r, h1, hg, r2, h2, hg2, hQ⟩ := hg
  exact ⟨r2, h2, am_g1 (o2 := (r2, h2, 0, 0)) hat hkd hdc hg hg2, hQ⟩
theorem am_wr {q : Instr × Nat × am_X} {r : Option Value} (hat : am_at C mi pc = some q) (hkd : am_kd q.1 q.2.2 = 3) (hdr : am_dr (am_rt C mi) q.1 st = some r) (hQ : Q r h) : am_W C d mi pc lv st h Q := ⟨r, h, am_g3 hat hkd hdr, hQ⟩
theorem am_ww {Q1 : Option Value → List am_E → Prop} (hg : am_W C d mi pc lv st h Q1) (hQ : ∀ r h1, Q1 r h1 → Q r h1) : am_W C d mi pc lv st h Q := by
  obtain ⟨r, h2, hg, hq⟩ := hg
  exact ⟨r, h2, hg, hQ r h2 hq⟩
end AMW
/-- a closed run -/
theorem am_wx {P : List am_M} {cl : List vw_C} {ty : Nat → Nat → FieldType} {wd : List Int64} {ys : Option (List Int32)} {n d mi pc : Nat} {lv : am_V} {st : List Value} {h : List am_E} {r : Option Value} {h1 : List am_E} {Q : Option Value → List am_E → Prop} (hr : am_run (P, cl, ty, none, wd) n d mi pc lv st h = some (r, h1, 0, 0)) (hQ : Q r h1) : am_W (P, cl, ty, ys, wd) d mi pc lv st h Q := ⟨r, h1, am_gx ys hr, hQ⟩
end
section
/-! Locals that a frame has beside those that a run looks at change nothing. -/
def am_le (lv lw : am_V) : Prop := ∀ (i : Nat) (v : Value), am_lk lv i = some v → am_lk lw i = some v
def am_sub (lw : am_V) : am_V → Prop
  | [] => True
  | q :: r => am_lk lw q.1 = some q.2 ∧ am_sub lw r
theorem am_sub_le {lw : am_V} : ∀ {lv : am_V}, am_sub lw lv → am_le lv lw := by
  intro lv h i v hv
  have hm := am_lk_mem hv
  clear hv
  induction lv with
  | nil => cases hm
  | cons q r ih =>
    rcases List.mem_cons.mp hm with rfl | hm
    · exact h.1
    · exact ih h.2 hm
theorem am_lk_keep {p : Nat × Value → Bool} {j : Nat} : ∀ {lv : am_V}, (∀ w, am_lk lv j = some w → p (j, w) = true) → am_lk (lv.filter p) j = am_lk lv j := by
  intro lv
  induction lv with
  | nil => intro _; rfl
  | cons q r ih =>
    obtain ⟨k, w⟩ := q
    intro h
    have e : am_lk ((k, w) :: r) j = (bif k == j then some w else am_lk r j) := rfl
    cases hk : (k == j) with
    | true =>
      have ek := eq_of_beq hk
      subst ek
      have hp := h w (by rw [e, hk]; rfl)
      rw [List.filter_cons_of_pos hp, e]
      show (bif k == k then some w else am_lk (r.filter p) k) = _
      rw [hk]
      rfl
    | false =>
      rw [e, hk, cond_false]
      have h2 : ∀ w2, am_lk r j = some w2 → p (j, w2) = true := fun w2 hw2 => h w2 (by rw [e, hk]; exact hw2)
      cases hp : p (k, w) with
      | true =>
        rw [List.filter_cons_of_pos hp]
        show (bif k == j then some w else am_lk (r.filter p) j) = _
        rw [hk, cond_false]
        exact ih h2
      | false =>
        rw [List.filter_cons_of_neg (by rw [hp]; exact Bool.false_ne_true)]
        exact ih h2
theorem am_lk_drop {p : Nat × Value → Bool} {j : Nat} : ∀ {lv : am_V}, (∀ w, p (j, w) = false) → am_lk (lv.filter p) j = none := by
  intro lv h
  induction lv with
  | nil => rfl
  | cons q r ih =>
    obtain ⟨k, w⟩ := q
    cases hp : p (k, w) with
    | true =>
      rw [List.filter_cons_of_pos hp]
      have hk : (k == j) = false := by
        cases hk : (k == j) with
        | false => rfl
        | true =>
          have ek := eq_of_beq hk
          subst ek
          rw [h w] at hp
          cases hp
      show (bif k == j then some w else am_lk (r.filter p) j) = _
      rw [hk, cond_false]
      exact ih
    | false =>
      rw [List.filter_cons_of_neg (by rw [hp]; exact Bool.false_ne_true)]
      exact ih
theorem am_c2_of {lv : am_V} {j : Nat} {w : Value} (h : am_lk lv j = some w) : am_c2 lv (j + 1) = (w.category == 2) := by
  show (match am_lk lv j with
    | some v => v.category == 2
    | none => false) = _
  rw [h]
theorem am_le_s1 {lv lw : am_V} (h : am_le lv lw) (i : Nat) (v : Value) : am_le (am_s1 lv i v) (am_s1 lw i v) := by
  intro j w hw
  have e : ∀ l : am_V, am_lk (am_s1 l i v) j = (bif i == j then some v else am_lk (l.filter (fun q => !(q.1 == i) && !(q.1 + 1 == i && (q.2.category == 2 || am_c2 l i)))) j) := fun _ => rfl
  rw [e] at hw ⊢
  cases hij : (i == j) with
  | true =>
    rw [hij] at hw
    exact hw
  | false =>
    rw [hij, cond_false] at hw
    rw [cond_false]
    have hji : (j == i) = false := by
      rw [beq_eq_false_iff_ne] at hij ⊢
      exact fun z => hij z.symm
    cases hj1 : (j + 1 == i) with
    | false =>
      rw [am_lk_keep (fun w2 _ => by simp [hji, hj1])] at hw ⊢
      exact h j w hw
    | true =>
      have ei := eq_of_beq hj1
      subst ei
      cases hc : am_c2 lv (j + 1) with
      | true =>
        rw [am_lk_drop (fun w2 => by simp [hc])] at hw
        cases hw
      | false =>
        have hk : am_lk (lv.filter (fun q => !(q.1 == j + 1) && !(q.1 + 1 == j + 1 && (q.2.category == 2 || am_c2 lv (j + 1))))) j = am_lk lv j := am_lk_keep (fun w2 hw2 => by
          have := am_c2_of hw2
          rw [hc] at this
          simp [hc, ← this])
        rw [hk] at hw
        have hc2 : (w.category == 2) = false := by rw [← am_c2_of hw]; exact hc
        have hw2 := h j w hw
        have hc3 : am_c2 lw (j + 1) = false := by rw [am_c2_of hw2]; exact hc2
        rw [am_lk_keep (fun w2 hw3 => by
          cases hw2.symm.trans hw3
          simp [hc3, hc2])]
        exact hw2
theorem am_le_s2 {lv lw : am_V} (h : am_le lv lw) (i : Nat) (v : Value) : am_le (am_s2 lv i v) (am_s2 lw i v) := by
  intro j w hw
  have e : ∀ l : am_V, am_lk (am_s2 l i v) j = (bif i == j then some v else am_lk (l.filter (fun q => !(q.1 == i) && (!(q.1 == i + 1) && !(q.1 + 1 == i && (q.2.category == 2 || am_c2 l i))))) j) := fun _ => rfl
  rw [e] at hw ⊢
  cases hij : (i == j) with
  | true =>
    rw [hij] at hw
    exact hw
  | false =>
    rw [hij, cond_false] at hw
    rw [cond_false]
    have hji : (j == i) = false := by
      rw [beq_eq_false_iff_ne] at hij ⊢
      exact fun z => hij z.symm
    cases hjn : (j == i + 1) with
    | true =>
      rw [am_lk_drop (fun w2 => by simp [hjn])] at hw
      cases hw
    | false =>
      cases hj1 : (j + 1 == i) with
      | false =>
        rw [am_lk_keep (fun w2 _ => by simp [hji, hj1, hjn])] at hw ⊢
        exact h j w hw
      | true =>
        have ei := eq_of_beq hj1
        subst ei
        cases hc : am_c2 lv (j + 1) with
        | true =>
          rw [am_lk_drop (fun w2 => by simp [hc])] at hw
          cases hw
        | false =>
          have hk : am_lk (lv.filter (fun q => !(q.1 == j + 1) && (!(q.1 == j + 1 + 1) && !(q.1 + 1 == j + 1 && (q.2.category == 2 || am_c2 lv (j + 1)))))) j = am_lk lv j := am_lk_keep (fun w2 hw2 => by
            have := am_c2_of hw2
            rw [hc] at this
            simp [hc, ← this, hjn])
          rw [hk] at hw
          have hc2 : (w.category == 2) = false := by rw [← am_c2_of hw]; exact hc
          have hw2 := h j w hw
          have hc3 : am_c2 lw (j + 1) = false := by rw [am_c2_of hw2]; exact hc2
          rw [am_lk_keep (fun w2 hw3 => by
            cases hw2.symm.trans hw3
            simp [hc3, hc2, hjn])]
          exact hw2
set_option maxHeartbeats 4000000 in
theorem am_do_le {C : am_C} {d : Nat} {i : Instr} {x : am_X} {pc : Nat} {lv lw : am_V} {st : List Value} {h : List am_E} {z : am_Z} (hle : am_le lv lw) (hdo : am_do C d i x pc lv st h = some z) : ∃ lw1 : am_V, am_do C d i x pc lw st h = some (z.1, lw1, z.2.2.1, z.2.2.2) ∧ am_le z.2.1 lw1 := by
  cases i
  case iconst n =>
    obtain rfl := Option.some.inj hdo
    exact ⟨lw, rfl, hle⟩
  case bipush n =>
    obtain rfl := Option.some.inj hdo
    exact ⟨lw, rfl, hle⟩
  case sipush n =>
    obtain rfl := Option.some.inj hdo
    exact ⟨lw, rfl, hle⟩
  case lconst n =>
    obtain rfl := Option.some.inj hdo
    exact ⟨lw, rfl, hle⟩
  case ldc2_w n =>
    obtain rfl := Option.some.inj hdo
    exact ⟨lw, rfl, hle⟩
  case goto n =>
    obtain rfl := Option.some.inj hdo
    exact ⟨lw, rfl, hle⟩
  case getstatic n =>
    obtain rfl := Option.some.inj hdo
    exact ⟨lw, rfl, hle⟩
  case iload_n n =>
    obtain ⟨v, hv, rfl⟩ := am_li1_inv hdo
    refine ⟨lw, ?_, hle⟩
    show am_li1 lw n (pc + 1) st h = _
    unfold am_li1
    rw [hle _ _ hv]
  case iload n =>
    obtain ⟨v, hv, rfl⟩ := am_li1_inv hdo
    refine ⟨lw, ?_, hle⟩
    show am_li1 lw n (pc + 2) st h = _
    unfold am_li1
    rw [hle _ _ hv]
  case lload_n n =>
    obtain ⟨v, hv, rfl⟩ := am_ll1_inv hdo
    refine ⟨lw, ?_, hle⟩
    show am_ll1 lw n (pc + 1) st h = _
    unfold am_ll1
    rw [hle _ _ hv]
  case lload n =>
    obtain ⟨v, hv, rfl⟩ := am_ll1_inv hdo
    refine ⟨lw, ?_, hle⟩
    show am_ll1 lw n (pc + 2) st h = _
    unfold am_ll1
    rw [hle _ _ hv]
  case aload_n n =>
    obtain ⟨v, hv, rfl⟩ := am_la1_inv hdo
    refine ⟨lw, ?_, hle⟩
    show am_la1 lw n (pc + 1) st h = _
    unfold am_la1
    rw [hle _ _ hv]
  case aload n =>
    obtain ⟨v, hv, rfl⟩ := am_la1_inv hdo
    refine ⟨lw, ?_, hle⟩
    show am_la1 lw n (pc + 2) st h = _
    unfold am_la1
    rw [hle _ _ hv]
  case istore_n n =>
    obtain ⟨v, r, rfl, rfl⟩ := am_si1_inv hdo
    exact ⟨_, rfl, am_le_s1 hle _ _⟩
  case istore n =>
    obtain ⟨v, r, rfl, rfl⟩ := am_si1_inv hdo
    exact ⟨_, rfl, am_le_s1 hle _ _⟩
  case lstore_n n =>
    obtain ⟨v, r, rfl, rfl⟩ := am_sl1_inv hdo
    exact ⟨_, rfl, am_le_s2 hle _ _⟩
  case lstore n =>
    obtain ⟨v, r, rfl, rfl⟩ := am_sl1_inv hdo
    exact ⟨_, rfl, am_le_s2 hle _ _⟩
  case astore_n n =>
    obtain ⟨v, r, rfl, rfl⟩ := am_sa1_inv hdo
    exact ⟨_, rfl, am_le_s1 hle _ _⟩
  case astore n =>
    obtain ⟨v, r, rfl, rfl⟩ := am_sa1_inv hdo
    exact ⟨_, rfl, am_le_s1 hle _ _⟩
  case iinc i n =>
    obtain ⟨v, hv, rfl⟩ := am_inc_inv hdo
    refine ⟨_, ?_, am_le_s1 hle _ _⟩
    show am_inc lw i n pc st h = _
    unfold am_inc
    rw [hle _ _ hv]
  case iadd =>
    obtain ⟨a, y, v, r, rfl, hf, rfl⟩ := am_ii_inv (f := fun x y => some (x + y)) hdo
    have hf : some (a + y) = some v := hf
    cases hf
    exact ⟨lw, rfl, hle⟩
  case isub =>
    obtain ⟨a, y, v, r, rfl, hf, rfl⟩ := am_ii_inv (f := fun x y => some (x - y)) hdo
    have hf : some (a - y) = some v := hf
    cases hf
    exact ⟨lw, rfl, hle⟩
  case imul =>
    obtain ⟨a, y, v, r, rfl, hf, rfl⟩ := am_ii_inv (f := fun x y => some (x * y)) hdo
    have hf : some (a * y) = some v := hf
    cases hf
    exact ⟨lw, rfl, hle⟩
  case iand =>
    obtain ⟨a, y, v, r, rfl, hf, rfl⟩ := am_ii_inv (f := fun x y => some (x &&& y)) hdo
    have hf : some (a &&& y) = some v := hf
    cases hf
    exact ⟨lw, rfl, hle⟩
  case ior =>
    obtain ⟨a, y, v, r, rfl, hf, rfl⟩ := am_ii_inv (f := fun x y => some (x ||| y)) hdo
    have hf : some (a ||| y) = some v := hf
    cases hf
    exact ⟨lw, rfl, hle⟩
  case idiv =>
    obtain ⟨a, y, v, r, rfl, hf, rfl⟩ := am_ii_inv (f := fun x y => if y = 0 then none else some (x / y)) hdo
    refine ⟨lw, ?_, hle⟩
    show am_ii (fun x y => if y = 0 then none else some (x / y)) pc lw (.int y :: .int a :: r) h = _
    simp only [am_ii, hf]
  case irem =>
    obtain ⟨a, y, v, r, rfl, hf, rfl⟩ := am_ii_inv (f := fun x y => if y = 0 then none else some (x - x / y * y)) hdo
    refine ⟨lw, ?_, hle⟩
    show am_ii (fun x y => if y = 0 then none else some (x - x / y * y)) pc lw (.int y :: .int a :: r) h = _
    simp only [am_ii, hf]
  case ladd =>
    obtain ⟨a, y, r, rfl, rfl⟩ := am_ll_inv hdo
    exact ⟨lw, rfl, hle⟩
  case lmul =>
    obtain ⟨a, y, r, rfl, rfl⟩ := am_ll_inv hdo
    exact ⟨lw, rfl, hle⟩
  case land =>
    obtain ⟨a, y, r, rfl, rfl⟩ := am_ll_inv hdo
    exact ⟨lw, rfl, hle⟩
  case lor =>
    obtain ⟨a, y, r, rfl, rfl⟩ := am_ll_inv hdo
    exact ⟨lw, rfl, hle⟩
  case lcmp =>
    obtain ⟨a, y, r, rfl, rfl⟩ := am_ll_inv hdo
    exact ⟨lw, rfl, hle⟩
  case lshl =>
    obtain ⟨a, y, r, rfl, rfl⟩ := am_li_inv hdo
    exact ⟨lw, rfl, hle⟩
  case lushr =>
    obtain ⟨a, y, r, rfl, rfl⟩ := am_li_inv hdo
    exact ⟨lw, rfl, hle⟩
  case i2l =>
    obtain ⟨a, r, rfl, rfl⟩ := am_ui_inv hdo
    exact ⟨lw, rfl, hle⟩
  case i2c =>
    obtain ⟨a, r, rfl, rfl⟩ := am_ui_inv hdo
    exact ⟨lw, rfl, hle⟩
  case l2i =>
    obtain ⟨a, r, rfl, rfl⟩ := am_ul_inv hdo
    exact ⟨lw, rfl, hle⟩
  case ifCond cn off =>
    obtain ⟨a, r, rfl, rfl⟩ := am_b1_inv hdo
    exact ⟨lw, rfl, hle⟩
  case if_icmp cn off =>
    obtain ⟨a, y, r, rfl, rfl⟩ := am_b2_inv hdo
    exact ⟨lw, rfl, hle⟩
  case tableswitch a1 a2 a3 a4 =>
    obtain ⟨a, tgt, r, rfl, hf, rfl⟩ := am_sw_inv hdo
    refine ⟨lw, ?_, hle⟩
    show am_sw _ lw (.int a :: r) h = _
    simp only [am_sw, hf]
  case lookupswitch a1 a2 =>
    obtain ⟨a, tgt, r, rfl, hf, rfl⟩ := am_sw_inv hdo
    refine ⟨lw, ?_, hle⟩
    show am_sw (fun a => am_to pc (Op.lookupswitch.offset a2.toList a1 a.toInt)) lw (.int a :: r) h = _
    simp only [am_sw, hf]
  case dup =>
    obtain ⟨v, r, rfl, hc, rfl⟩ := am_dup_inv hdo
    refine ⟨lw, ?_, hle⟩
    show am_dup pc lw (v :: r) h = _
    simp [am_dup, hc]
  case pop =>
    obtain ⟨v, r, rfl, hc, rfl⟩ := am_pop_inv hdo
    refine ⟨lw, ?_, hle⟩
    show am_pop pc lw (v :: r) h = _
    simp [am_pop, hc]
  case getfield n =>
    obtain ⟨j, r, fs, v, rfl, hj, hv, rfl⟩ := am_get_inv hdo
    refine ⟨lw, ?_, hle⟩
    show am_get x.1 x.2.1 pc lw (.ref (j + 2) :: r) h = _
    simp [am_get, am_ob, hj, hv]
  case putfield n =>
    obtain ⟨j, r, fs, v, rfl, hj, hk, hf, rfl⟩ := am_put_inv hdo
    refine ⟨lw, ?_, hle⟩
    show am_put (C.2.2.1 x.1 x.2.1) x.1 x.2.1 pc lw (v :: .ref (j + 2) :: r) h = _
    simp [am_put, am_ob, hj, hk, hf]
  case iaload =>
    obtain ⟨a, r, v, h0, rfl, hc⟩ := am_ld_inv hdo
    refine ⟨lw, ?_, hle⟩
    rcases hc with ⟨rfl, ht, hv⟩ | ⟨j, l, rfl, hj, hv⟩
    · show am_ld false C.2.2.2.1 pc lw (.int a :: .ref 0 :: r) h = _
      cases hx : C.2.2.2.1 with
      | none => rw [hx] at hv; simp at hv
      | some l0 =>
        rw [hx] at hv
        have hv : l0[a.toNatClampNeg]? = some v := hv
        first
          | (simp [am_ld, h0, hv]; done)
          | cases ht
    · show am_ld false C.2.2.2.1 pc lw (.int a :: .ref (j + 2) :: r) h = _
      simp [am_ld, am_ar, hj, hv, h0]
  case caload =>
    obtain ⟨a, r, v, h0, rfl, hc⟩ := am_ld_inv hdo
    refine ⟨lw, ?_, hle⟩
    rcases hc with ⟨rfl, ht, hv⟩ | ⟨j, l, rfl, hj, hv⟩
    · show am_ld true C.2.2.2.1 pc lw (.int a :: .ref 0 :: r) h = _
      cases hx : C.2.2.2.1 with
      | none => rw [hx] at hv; simp at hv
      | some l0 =>
        rw [hx] at hv
        have hv : l0[a.toNatClampNeg]? = some v := hv
        first
          | (simp [am_ld, h0, hv]; done)
          | cases ht
    · show am_ld true C.2.2.2.1 pc lw (.int a :: .ref (j + 2) :: r) h = _
      simp [am_ld, am_ar, hj, hv, h0]
  case laload =>
    obtain ⟨a, r, v, h0, rfl, rfl, hv⟩ := am_lld_inv hdo
    refine ⟨lw, ?_, hle⟩
    show am_lld C.2.2.2.2 pc lw (.int a :: .ref 1 :: r) h = _
    simp [am_lld, h0, hv]
  case iastore =>
    obtain ⟨a, v, r, j, l, h0, rfl, hj, hi, rfl⟩ := am_sto_inv hdo
    refine ⟨lw, ?_, hle⟩
    show am_sto false pc lw (.int v :: .int a :: .ref (j + 2) :: r) h = _
    simp [am_sto, am_ar, hj, hi, h0]
  case castore =>
    obtain ⟨a, v, r, j, l, h0, rfl, hj, hi, rfl⟩ := am_sto_inv hdo
    refine ⟨lw, ?_, hle⟩
    show am_sto true pc lw (.int v :: .int a :: .ref (j + 2) :: r) h = _
    simp [am_sto, am_ar, hj, hi, h0]
  case arraylength =>
    obtain ⟨r, v, rfl, hc⟩ := am_len_inv hdo
    refine ⟨lw, ?_, hle⟩
    rcases hc with ⟨rfl, rfl⟩ | ⟨rfl, rfl⟩ | ⟨j, o, rfl, hj, rfl⟩
    · have hdo : am_len C.2.2.2.1 C.2.2.2.2 pc lv (.ref 0 :: r) h = _ := hdo
      show am_len C.2.2.2.1 C.2.2.2.2 pc lw (.ref 0 :: r) h = _
      cases hx : C.2.2.2.1 with
      | none => rw [hx] at hdo; exact absurd hdo (by simp [am_len])
      | some l0 => rfl
    · rfl
    · show am_len C.2.2.2.1 C.2.2.2.2 pc lw (.ref (j + 2) :: r) h = _
      simp [am_len, am_ar, hj]
  case invokespecial n =>
    obtain ⟨a, r, rfl, h1, h8, rfl⟩ := am_oi_inv hdo
    refine ⟨lw, ?_, hle⟩
    show am_oi d pc lw (.ref a :: r) h = _
    simp [am_oi, h1, h8]
  case invokestatic n =>
    have hdo : (bif x.1 == 1000 then am_max d pc lv st h else am_acp d pc lv st h) = some z := hdo
    show ∃ lw1 : am_V, (bif x.1 == 1000 then am_max d pc lw st h else am_acp d pc lw st h) = some (z.1, lw1, z.2.2.1, z.2.2.2) ∧ am_le z.2.1 lw1
    cases hx : (x.1 == 1000) with
    | true =>
      rw [hx, cond_true] at hdo
      obtain ⟨a, y, r, rfl, h1, h8, rfl⟩ := am_max_inv hdo
      exact ⟨lw, by simp [am_max, h1, h8], hle⟩
    | false =>
      rw [hx, cond_false] at hdo
      obtain ⟨n, dp, sp, j, k, o, q, r, rfl, hj, hk, hc, rfl⟩ := am_acp_inv hdo
      refine ⟨lw, ?_, hle⟩
      rw [cond_false]
      have e1 : am_ar h (j + 2) = some o := by simp [am_ar, hj]
      have e2 : am_ar h (k + 2) = some q := by simp [am_ar, hk]
      unfold am_acp
      simp only [e1, e2]
      show (bif am_acc d r o q sp dp n then some (pc + 3, lw, r, h.set (j + 2 - 2) (.inl (true, am_cp q.2 o.2 sp.toNatClampNeg dp.toNatClampNeg n.toNatClampNeg))) else none) = _
      rw [hc]
      rfl
  all_goals exact absurd (show (none : Option am_Z) = some z from hdo) (by simp)
theorem am_run_le {C : am_C} : ∀ (n d mi pc : Nat) (lv lw : am_V) (st : List Value) (h : List am_E) (o : Option Value × List am_E × Nat × Nat), am_le lv lw → am_run C n d mi pc lv st h = some o → am_run C n d mi pc lw st h = some o := by
  intro n
  induction n with
  | zero =>
    intro d mi pc lv lw st h o _ hrun
    cases (show (none : Option (Option Value × List am_E × Nat × Nat)) = some o from hrun)
  | succ n ih =>
    intro d mi pc lv lw st h o hle hrun
    rw [am_run] at hrun ⊢
    cases hat : am_at C mi pc with
    | none => rw [hat] at hrun; cases hrun
    | some q =>
      rw [hat] at hrun
      rcases am_kd_cases q.1 q.2.2 with hkd | hkd | hkd | hkd
      · simp only [hkd] at hrun ⊢
        cases hdo : am_do C d q.1 q.2.2 pc lv st h with
        | none => rw [hdo] at hrun; cases hrun
        | some z =>
          rw [hdo] at hrun
          obtain ⟨lw1, h1, h2⟩ := am_do_le hle hdo
          rw [h1]
          exact ih d mi _ _ _ _ _ o h2 hrun
      · simp only [hkd] at hrun ⊢
        cases hdc : am_dc C q.1 q.2.2 st h with
        | none => rw [hdc] at hrun; cases hrun
        | some z =>
          rw [hdc] at hrun
          cases d with
          | zero => cases hrun
          | succ d1 =>
            simp only at hrun ⊢
            cases hr1 : am_run C n d1 z.1 0 (lv_args 0 z.2.1) [] h with
            | none => rw [hr1] at hrun; cases hrun
            | some o1 =>
              rw [hr1] at hrun
              simp only at hrun ⊢
              cases hr2 : am_run C n (d1 + 1) mi (pc + 3) lv (o1.1.toList ++ z.2.2) o1.2.1 with
              | none => rw [hr2] at hrun; cases hrun
              | some o2 =>
                rw [hr2] at hrun
                rw [ih (d1 + 1) mi _ _ _ _ _ o2 hle hr2]
                exact hrun
      · simp only [hkd] at hrun ⊢
        cases hdn : am_dn C q.1 q.2.2 pc st with
        | none => rw [hdn] at hrun; cases hrun
        | some z =>
          rw [hdn] at hrun
          simp only at hrun ⊢
          cases hr2 : am_run C n d mi z.1 lv (.ref (h.length + 2) :: z.2.1) (h ++ [z.2.2.1]) with
          | none => rw [hr2] at hrun; cases hrun
          | some o2 =>
            rw [hr2] at hrun
            rw [ih d mi _ _ _ _ _ o2 hle hr2]
            exact hrun
      · simp only [hkd] at hrun ⊢
        exact hrun
/-- fewer locals are enough -/
theorem am_wl {C : am_C} {d mi pc : Nat} {lv lw : am_V} {st : List Value} {h : List am_E} {Q : Option Value → List am_E → Prop} (hs : am_sub lw lv) (hg : am_W C d mi pc lv st h Q) : am_W C d mi pc lw st h Q := by
  obtain ⟨r, h1, ⟨n, hn⟩, hQ⟩ := hg
  exact ⟨r, h1, ⟨n, am_run_le n d mi pc lv lw st h _ (am_sub_le hs) hn⟩, hQ⟩
end
section
/-! A program that looks through a method's table: what it passes is right. T: the tables' words; an instruction names its word by the word's place. -/
def am_lb (C : am_C) (T : List Cond) (K : List Nat) (M : am_M) (pc : Nat) (i : Instr) (len : Nat) (x : am_X) : Bool := match i with
  | .iconst n => decide (len = 1 ∧ x.2.2.2 = .int (Int32.ofInt n))
  | .bipush n => decide (len = 2 ∧ x.2.2.2 = .int (Int8.ofInt n).toInt32)
  | .sipush n => decide (len = 3 ∧ x.2.2.2 = .int (Int16.ofInt n).toInt32)
  | .lconst n => decide (len = 1 ∧ x.2.2.2 = .long (Int64.ofNat (n : Nat)))
  | .ldc2_w k => (match x.2.2.2 with
    | .long v => decide (len = 3 ∧ T[x.2.2.1]? = some (Cond.constantLong M.1.cls k v))
    | _ => false)
  | .iload _ => decide (len = 2)
  | .lload _ => decide (len = 2)
  | .aload _ => decide (len = 2)
  | .istore_n k => decide (len = 1 ∧ (k : Nat) < M.2.2.1)
  | .istore k => decide (len = 2 ∧ k < M.2.2.1)
  | .lstore_n k => decide (len = 1 ∧ (k : Nat) + 1 < M.2.2.1)
  | .lstore k => decide (len = 2 ∧ k + 1 < M.2.2.1)
  | .astore_n k => decide (len = 1 ∧ (k : Nat) < M.2.2.1)
  | .astore k => decide (len = 2 ∧ k < M.2.2.1)
  | .iinc k _ => decide (len = 3 ∧ k < M.2.2.1)
  | .ifCond _ o => decide (len = 3 ∧ (pc : Int) + o = (x.1 : Int))
  | .if_icmp _ o => decide (len = 3 ∧ (pc : Int) + o = (x.1 : Int))
  | .goto o => decide (len = 3 ∧ (pc : Int) + o = (x.1 : Int))
  | .tableswitch _ _ _ _ => true
  | .lookupswitch _ ps => (ps.toList.zip (ps.toList.drop 1)).all (fun (a, next) => a.1 < next.1)
  | .getfield k => (match C.2.1[x.1]? with
    | some q => decide (len = 3 ∧ x.2.1 < q.2.2 ∧ T[x.2.2.1]? = some (Cond.fieldLink M.1.cls k q.1 (q.2.1 x.2.1).2.1 (q.2.1 x.2.1).2.2.1))
    | none => false)
  | .putfield k => (match C.2.1[x.1]? with
    | some q => decide ((len = 3 ∧ x.2.1 < q.2.2 ∧ T[x.2.2.1]? = some (Cond.fieldLink M.1.cls k q.1 (q.2.1 x.2.1).2.1 (q.2.1 x.2.1).2.2.1)) ∧ ((q.2.1 x.2.1).2.2.2 = false ∨ (q.2.1 x.2.1).2.2.2 = true ∧ M.1.name = "<init>" ∧ q.1 = M.1.cls))
    | none => false)
  | .getstatic k => decide (len = 3 ∧ T[x.2.2.1]? = some (Cond.fieldLink M.1.cls k "BindingServer$Tokens" "WORDS" "[J"))
  | .newarray _ => decide (len = 2)
  | .new k => (match C.2.1[x.1]? with
    | some q => decide (len = 3 ∧ T[x.2.2.1]? = some (Cond.classLink M.1.cls k q.1))
    | none => false)
  | .invokevirtual k => (match C.1[x.1]?, x.2.2.2 with
    | some N, .ref ci => (match C.2.1[ci]? with
      | some q => decide (len = 3 ∧ x.1 ≠ 0 ∧ K[x.1]? = some 0 ∧ q.1 = N.1.cls ∧ T[x.2.2.1]? = some (Cond.methodLink M.1.cls k N.1) ∧ am_pd N.1 x.2.1)
      | none => false)
    | _, _ => false)
  | .invokespecial k => bif x.1 == 1002 then decide (len = 3 ∧ T[x.2.2.1]? = some (Cond.methodLink M.1.cls k objectInit)) else (match C.1[x.1]? with
    | some N => decide (len = 3 ∧ x.1 ≠ 0 ∧ K[x.1]? = some 2 ∧ T[x.2.2.1]? = some (Cond.methodLink M.1.cls k N.1) ∧ N.1.name = "<init>" ∧ N.2.2.2.1 = none ∧ am_pd N.1 x.2.1)
    | none => false)
  | .invokestatic k => bif x.1 == 1000 then decide (len = 3 ∧ T[x.2.2.1]? = some (Cond.methodLink M.1.cls k Lib.Math.max.name)) else bif x.1 == 1001 then decide (len = 3 ∧ T[x.2.2.1]? = some (Cond.methodLink M.1.cls k arraycopyName)) else (match C.1[x.1]? with
    | some N => decide (len = 3 ∧ x.1 ≠ 0 ∧ K[x.1]? = some 1 ∧ T[x.2.2.1]? = some (Cond.methodLink M.1.cls k N.1) ∧ am_pd N.1 x.2.1)
    | none => false)
  | _ => decide (len = 1)
/-- of a method: static, or an instance's method whose choice is itself -/
def am_ki (G : List Cond) (M : am_M) (kind : Nat) : Prop := match kind with
  | 0 => Cond.instanceMethod M.1 ∈ G ∧ Cond.selects M.1.cls M.1 M.1 ∈ G
  | 1 => Cond.static M.1 ∈ G
  | _ => Cond.instanceMethod M.1 ∈ G
theorem am_lb_ok {C : am_C} {G T : List Cond} {K : List Nat} {M : am_M} {pc : Nat} {i : Instr} {len : Nat} {x : am_X} (hT : ∀ w ∈ T, goodWord w = true → w ∈ G) (hK : ∀ (mi k : Nat) (N : am_M), C.1[mi]? = some N → K[mi]? = some k → mi ≠ 0 → am_ki G N k) (h : am_lb C T K M pc i len x = true) : am_lo C G M pc i len x := by
  have hm : ∀ {j : Nat} {w : Cond}, T[j]? = some w → goodWord w = true → w ∈ G := fun hj hg => hT _ (List.mem_of_getElem? hj) hg
  obtain ⟨x1, x2, x3, x4⟩ := x
  cases i
  case iconst n =>
    have h2 : len = 1 ∧ x4 = .int (Int32.ofInt n) := of_decide_eq_true h
    exact h2
  case bipush n =>
    have h2 : len = 2 ∧ x4 = .int (Int8.ofInt n).toInt32 := of_decide_eq_true h
    exact h2
  case sipush n =>
    have h2 : len = 3 ∧ x4 = .int (Int16.ofInt n).toInt32 := of_decide_eq_true h
    exact h2
  case lconst n =>
    have h2 : len = 1 ∧ x4 = .long (Int64.ofNat (n : Nat)) := of_decide_eq_true h
    exact h2
  case iload n =>
    have h2 : len = 2 := of_decide_eq_true h
    exact h2
  case lload n =>
    have h2 : len = 2 := of_decide_eq_true h
    exact h2
  case aload n =>
    have h2 : len = 2 := of_decide_eq_true h
    exact h2
  case istore_n n =>
    have h2 : len = 1 ∧ (n : Nat) < M.2.2.1 := of_decide_eq_true h
    exact h2
  case istore n =>
    have h2 : len = 2 ∧ n < M.2.2.1 := of_decide_eq_true h
    exact h2
  case lstore_n n =>
    have h2 : len = 1 ∧ (n : Nat) + 1 < M.2.2.1 := of_decide_eq_true h
    exact h2
  case lstore n =>
    have h2 : len = 2 ∧ n + 1 < M.2.2.1 := of_decide_eq_true h
    exact h2
  case astore_n n =>
    have h2 : len = 1 ∧ (n : Nat) < M.2.2.1 := of_decide_eq_true h
    exact h2
  case astore n =>
    have h2 : len = 2 ∧ n < M.2.2.1 := of_decide_eq_true h
    exact h2
  case iinc i n =>
    have h2 : len = 3 ∧ i < M.2.2.1 := of_decide_eq_true h
    exact h2
  case ifCond cn o =>
    have h2 : len = 3 ∧ (pc : Int) + o = (x1 : Int) := of_decide_eq_true h
    exact h2
  case if_icmp cn o =>
    have h2 : len = 3 ∧ (pc : Int) + o = (x1 : Int) := of_decide_eq_true h
    exact h2
  case goto o =>
    have h2 : len = 3 ∧ (pc : Int) + o = (x1 : Int) := of_decide_eq_true h
    exact h2
  case newarray ty =>
    have h2 : len = 2 := of_decide_eq_true h
    exact h2
  case ldc2_w k =>
    cases x4 with
    | long v =>
      have h : _ := of_decide_eq_true h
      exact ⟨h.1, v, rfl, hm h.2 rfl⟩
    | _ => cases h
  case tableswitch a1 a2 a3 a4 => exact trivial
  case lookupswitch a1 a2 => exact h
  case getfield k =>
    cases hq : C.2.1[x1]? with
    | none =>
      have h : (match C.2.1[x1]? with
        | some q => decide (len = 3 ∧ x2 < q.2.2 ∧ T[x3]? = some (Cond.fieldLink M.1.cls k q.1 (q.2.1 x2).2.1 (q.2.1 x2).2.2.1))
        | none => false) = true := h
      rw [hq] at h
      cases h
    | some q =>
      have h : (match C.2.1[x1]? with
        | some q => decide (len = 3 ∧ x2 < q.2.2 ∧ T[x3]? = some (Cond.fieldLink M.1.cls k q.1 (q.2.1 x2).2.1 (q.2.1 x2).2.2.1))
        | none => false) = true := h
      rw [hq] at h
      have h := of_decide_eq_true h
      exact ⟨h.1, q, hq, h.2.1, hm h.2.2 rfl⟩
  case putfield k =>
    have h : (match C.2.1[x1]? with
        | some q => decide ((len = 3 ∧ x2 < q.2.2 ∧ T[x3]? = some (Cond.fieldLink M.1.cls k q.1 (q.2.1 x2).2.1 (q.2.1 x2).2.2.1)) ∧ ((q.2.1 x2).2.2.2 = false ∨ (q.2.1 x2).2.2.2 = true ∧ M.1.name = "<init>" ∧ q.1 = M.1.cls))
        | none => false) = true := h
    cases hq : C.2.1[x1]? with
    | none =>
      rw [hq] at h
      cases h
    | some q =>
      rw [hq] at h
      have h := of_decide_eq_true h
      exact ⟨h.1.1, ⟨q, hq, h.1.2.1, hm h.1.2.2 rfl⟩, q, hq, h.2⟩
  case getstatic k =>
    have h := of_decide_eq_true h
    exact ⟨h.1, hm h.2 rfl⟩
  case new k =>
    have h : (match C.2.1[x1]? with
        | some q => decide (len = 3 ∧ T[x3]? = some (Cond.classLink M.1.cls k q.1))
        | none => false) = true := h
    cases hq : C.2.1[x1]? with
    | none =>
      rw [hq] at h
      cases h
    | some q =>
      rw [hq] at h
      have h := of_decide_eq_true h
      exact ⟨h.1, q, hq, hm h.2 rfl⟩
  case invokevirtual k =>
    cases x4 with
    | ref ci =>
      have h : (match C.1[x1]?, Value.ref ci with
        | some N, .ref ci => (match C.2.1[ci]? with
          | some q => decide (len = 3 ∧ x1 ≠ 0 ∧ K[x1]? = some 0 ∧ q.1 = N.1.cls ∧ T[x3]? = some (Cond.methodLink M.1.cls k N.1) ∧ am_pd N.1 x2)
          | none => false)
        | _, _ => false) = true := h
      cases hN : C.1[x1]? with
      | none =>
        rw [hN] at h
        cases h
      | some N =>
        rw [hN] at h
        simp only at h
        cases hq : C.2.1[ci]? with
        | none =>
          rw [hq] at h
          cases h
        | some q =>
          rw [hq] at h
          have h := of_decide_eq_true h
          have hk := hK x1 0 N hN h.2.2.1 h.2.1
          exact ⟨h.1, h.2.1, N, ci, q, hN, rfl, hq, h.2.2.2.1, hm h.2.2.2.2.1 rfl, hk.1, hk.2, h.2.2.2.2.2⟩
    | _ =>
      have h : (match C.1[x1]?, (_ : Value) with
        | some N, .ref ci => _
        | _, _ => false) = true := h
      exact absurd h (by split <;> simp_all)
  case invokespecial k =>
    have h : (bif x1 == 1002 then decide (len = 3 ∧ T[x3]? = some (Cond.methodLink M.1.cls k objectInit)) else (match C.1[x1]? with
      | some N => decide (len = 3 ∧ x1 ≠ 0 ∧ K[x1]? = some 2 ∧ T[x3]? = some (Cond.methodLink M.1.cls k N.1) ∧ N.1.name = "<init>" ∧ N.2.2.2.1 = none ∧ am_pd N.1 x2)
      | none => false)) = true := h
    cases hx : (x1 == 1002) with
    | true =>
      rw [hx] at h
      have h := of_decide_eq_true h
      exact ⟨h.1, Or.inl ⟨eq_of_beq hx, hm h.2 rfl⟩⟩
    | false =>
      rw [hx, cond_false] at h
      cases hN : C.1[x1]? with
      | none =>
        rw [hN] at h
        cases h
      | some N =>
        rw [hN] at h
        have h := of_decide_eq_true h
        have hk := hK x1 2 N hN h.2.2.1 h.2.1
        exact ⟨h.1, Or.inr ⟨ne_of_beq_false hx, h.2.1, N, hN, hm h.2.2.2.1 rfl, hk, h.2.2.2.2.1, h.2.2.2.2.2.1, h.2.2.2.2.2.2⟩⟩
  case invokestatic k =>
    have h : (bif x1 == 1000 then decide (len = 3 ∧ T[x3]? = some (Cond.methodLink M.1.cls k Lib.Math.max.name)) else bif x1 == 1001 then decide (len = 3 ∧ T[x3]? = some (Cond.methodLink M.1.cls k arraycopyName)) else (match C.1[x1]? with
      | some N => decide (len = 3 ∧ x1 ≠ 0 ∧ K[x1]? = some 1 ∧ T[x3]? = some (Cond.methodLink M.1.cls k N.1) ∧ am_pd N.1 x2)
      | none => false)) = true := h
    cases hx : (x1 == 1000) with
    | true =>
      rw [hx] at h
      have h := of_decide_eq_true h
      exact ⟨h.1, Or.inl ⟨eq_of_beq hx, hm h.2 rfl⟩⟩
    | false =>
      rw [hx, cond_false] at h
      cases hy : (x1 == 1001) with
      | true =>
        rw [hy] at h
        have h := of_decide_eq_true h
        exact ⟨h.1, Or.inr (Or.inl ⟨eq_of_beq hy, hm h.2 rfl⟩)⟩
      | false =>
        rw [hy, cond_false] at h
        cases hN : C.1[x1]? with
        | none =>
          rw [hN] at h
          cases h
        | some N =>
          rw [hN] at h
          have h := of_decide_eq_true h
          have hk := hK x1 1 N hN h.2.2.1 h.2.1
          exact ⟨h.1, Or.inr (Or.inr ⟨ne_of_beq_false hx, ne_of_beq_false hy, h.2.1, N, hN, hm h.2.2.2.1 rfl, hk, h.2.2.2.2⟩)⟩
  all_goals exact (show len = 1 from of_decide_eq_true (p := len = 1) h)
/-- a whole table -/
theorem am_tb_ok {C : am_C} {G T : List Cond} {K : List Nat} {M : am_M} (hT : ∀ w ∈ T, goodWord w = true → w ∈ G) (hK : ∀ (mi k : Nat) (N : am_M), C.1[mi]? = some N → K[mi]? = some k → mi ≠ 0 → am_ki G N k) (hd : ∀ q ∈ M.2.2.2.2, decode M.2.1 q.1 = .ok (q.2.1, q.2.2.1)) (hb : M.2.2.2.2.all (fun q => am_lb C T K M q.1 q.2.1 q.2.2.1 q.2.2.2) = true) : ∀ q ∈ M.2.2.2.2, am_ok C G M q := fun q hq => ⟨hd q hq, am_lb_ok hT hK (List.all_eq_true.mp hb q hq)⟩
end
