def am_GG : List Cond := lw_tbl.filter goodWord
theorem am_tin {w : Cond} (i : Nat) (h : tables_1[i]? = some w) (hg : goodWord w = true) : w ∈ am_GG := List.mem_filter.mpr ⟨List.mem_append_right _ (List.mem_of_getElem? h), hg⟩
theorem am_sin {w : Cond} (i : Nat) (h : (k2_sels lw_privs)[i]? = some w) (hg : goodWord w = true) : w ∈ am_GG := List.mem_filter.mpr ⟨List.mem_append_left _ (List.mem_of_getElem? h), hg⟩
theorem am_tall : ∀ w ∈ tables_1, goodWord w = true → w ∈ am_GG := fun _ h hg => List.mem_filter.mpr ⟨List.mem_append_right _ h, hg⟩
theorem ki_1 : am_ki am_GG md_1 2 := am_tin 213 (by decide +kernel) rfl
theorem ki_2 : am_ki am_GG md_2 0 := ⟨am_tin 559 (by decide +kernel) rfl, am_tin 560 (by decide +kernel) rfl⟩
theorem ki_3 : am_ki am_GG md_3 0 := ⟨am_tin 564 (by decide +kernel) rfl, am_sin 36 (by decide +kernel) rfl⟩
theorem ki_4 : am_ki am_GG md_4 0 := ⟨am_tin 568 (by decide +kernel) rfl, am_sin 37 (by decide +kernel) rfl⟩
theorem ki_5 : am_ki am_GG md_5 0 := ⟨am_tin 580 (by decide +kernel) rfl, am_sin 38 (by decide +kernel) rfl⟩
theorem ki_6 : am_ki am_GG md_6 0 := ⟨am_tin 584 (by decide +kernel) rfl, am_sin 39 (by decide +kernel) rfl⟩
theorem ki_7 : am_ki am_GG md_7 0 := ⟨am_tin 592 (by decide +kernel) rfl, am_sin 40 (by decide +kernel) rfl⟩
theorem ki_8 : am_ki am_GG md_8 0 := ⟨am_tin 600 (by decide +kernel) rfl, am_sin 41 (by decide +kernel) rfl⟩
theorem ki_9 : am_ki am_GG md_9 0 := ⟨am_tin 616 (by decide +kernel) rfl, am_sin 43 (by decide +kernel) rfl⟩
theorem ki_10 : am_ki am_GG md_10 0 := ⟨am_tin 620 (by decide +kernel) rfl, am_sin 44 (by decide +kernel) rfl⟩
theorem ki_11 : am_ki am_GG md_11 0 := ⟨am_tin 604 (by decide +kernel) rfl, am_sin 42 (by decide +kernel) rfl⟩
theorem ki_12 : am_ki am_GG md_12 1 := am_tin 612 (by decide +kernel) rfl
theorem ki_13 : am_ki am_GG md_13 0 := ⟨am_tin 628 (by decide +kernel) rfl, am_sin 45 (by decide +kernel) rfl⟩
theorem ki_14 : am_ki am_GG md_14 0 := ⟨am_tin 632 (by decide +kernel) rfl, am_sin 46 (by decide +kernel) rfl⟩
theorem ki_15 : am_ki am_GG md_15 0 := ⟨am_tin 636 (by decide +kernel) rfl, am_sin 47 (by decide +kernel) rfl⟩
theorem ki_16 : am_ki am_GG md_16 0 := ⟨am_tin 645 (by decide +kernel) rfl, am_sin 48 (by decide +kernel) rfl⟩
theorem ki_17 : am_ki am_GG md_17 0 := ⟨am_tin 649 (by decide +kernel) rfl, am_sin 49 (by decide +kernel) rfl⟩
theorem ki_18 : am_ki am_GG md_18 0 := ⟨am_tin 653 (by decide +kernel) rfl, am_sin 50 (by decide +kernel) rfl⟩
theorem ki_19 : am_ki am_GG md_19 1 := am_tin 292 (by decide +kernel) rfl
theorem ki_20 : am_ki am_GG md_20 1 := am_tin 298 (by decide +kernel) rfl
theorem ki_21 : am_ki am_GG md_21 1 := am_tin 289 (by decide +kernel) rfl
theorem ki_22 : am_ki am_GG md_22 1 := am_tin 750 (by decide +kernel) rfl
theorem ki_23 : am_ki am_GG md_23 2 := am_tin 80 (by decide +kernel) rfl
theorem ki_24 : am_ki am_GG md_24 0 := ⟨am_tin 495 (by decide +kernel) rfl, am_tin 496 (by decide +kernel) rfl⟩
theorem ki_25 : am_ki am_GG md_25 0 := ⟨am_tin 686 (by decide +kernel) rfl, am_tin 687 (by decide +kernel) rfl⟩
theorem ki_26 : am_ki am_GG md_26 0 := ⟨am_tin 695 (by decide +kernel) rfl, am_sin 52 (by decide +kernel) rfl⟩
theorem ki_27 : am_ki am_GG md_27 0 := ⟨am_tin 691 (by decide +kernel) rfl, am_sin 51 (by decide +kernel) rfl⟩
theorem ki_28 : am_ki am_GG md_28 2 := am_tin 118 (by decide +kernel) rfl
theorem ki_29 : am_ki am_GG md_29 0 := ⟨am_tin 454 (by decide +kernel) rfl, am_tin 455 (by decide +kernel) rfl⟩
theorem ki_30 : am_ki am_GG md_30 0 := ⟨am_tin 728 (by decide +kernel) rfl, am_tin 729 (by decide +kernel) rfl⟩
theorem ki_31 : am_ki am_GG md_31 0 := ⟨am_tin 571 (by decide +kernel) rfl, am_tin 572 (by decide +kernel) rfl⟩
theorem ki_32 : am_ki am_GG md_32 0 := ⟨am_tin 587 (by decide +kernel) rfl, am_tin 588 (by decide +kernel) rfl⟩
theorem ki_33 : am_ki am_GG md_33 0 := ⟨am_tin 639 (by decide +kernel) rfl, am_tin 640 (by decide +kernel) rfl⟩
theorem ki_34 : am_ki am_GG md_34 0 := ⟨am_tin 595 (by decide +kernel) rfl, am_tin 596 (by decide +kernel) rfl⟩
theorem ki_35 : am_ki am_GG md_35 0 := ⟨am_tin 656 (by decide +kernel) rfl, am_tin 657 (by decide +kernel) rfl⟩
theorem ki_36 : am_ki am_GG md_36 0 := ⟨am_tin 768 (by decide +kernel) rfl, am_tin 769 (by decide +kernel) rfl⟩
theorem ki_37 : am_ki am_GG md_37 0 := ⟨am_tin 756 (by decide +kernel) rfl, am_tin 757 (by decide +kernel) rfl⟩
theorem ki_38 : am_ki am_GG md_38 0 := ⟨am_tin 732 (by decide +kernel) rfl, am_tin 733 (by decide +kernel) rfl⟩
theorem ki_39 : am_ki am_GG md_39 2 := am_tin 164 (by decide +kernel) rfl
theorem ki_40 : am_ki am_GG md_40 0 := ⟨am_tin 406 (by decide +kernel) rfl, am_tin 407 (by decide +kernel) rfl⟩
theorem ki_41 : am_ki am_GG md_41 0 := ⟨am_tin 411 (by decide +kernel) rfl, am_sin 8 (by decide +kernel) rfl⟩
theorem ki_42 : am_ki am_GG md_42 0 := ⟨am_tin 427 (by decide +kernel) rfl, am_sin 10 (by decide +kernel) rfl⟩
theorem ki_43 : am_ki am_GG md_43 0 := ⟨am_tin 431 (by decide +kernel) rfl, am_sin 11 (by decide +kernel) rfl⟩
theorem ki_44 : am_ki am_GG md_44 0 := ⟨am_tin 435 (by decide +kernel) rfl, am_sin 12 (by decide +kernel) rfl⟩
theorem ki_45 : am_ki am_GG md_45 0 := ⟨am_tin 439 (by decide +kernel) rfl, am_sin 13 (by decide +kernel) rfl⟩
theorem ki_46 : am_ki am_GG md_46 0 := ⟨am_tin 548 (by decide +kernel) rfl, am_sin 33 (by decide +kernel) rfl⟩
theorem ki_47 : am_ki am_GG md_47 0 := ⟨am_tin 552 (by decide +kernel) rfl, am_sin 34 (by decide +kernel) rfl⟩
theorem ki_48 : am_ki am_GG md_48 0 := ⟨am_tin 468 (by decide +kernel) rfl, am_sin 19 (by decide +kernel) rfl⟩
theorem ki_49 : am_ki am_GG md_49 0 := ⟨am_tin 544 (by decide +kernel) rfl, am_sin 32 (by decide +kernel) rfl⟩
theorem ki_50 : am_ki am_GG md_50 0 := ⟨am_tin 476 (by decide +kernel) rfl, am_sin 21 (by decide +kernel) rfl⟩
theorem ki_51 : am_ki am_GG md_51 0 := ⟨am_tin 480 (by decide +kernel) rfl, am_sin 22 (by decide +kernel) rfl⟩
theorem ki_52 : am_ki am_GG md_52 0 := ⟨am_tin 460 (by decide +kernel) rfl, am_sin 17 (by decide +kernel) rfl⟩
theorem ki_53 : am_ki am_GG md_53 0 := ⟨am_tin 464 (by decide +kernel) rfl, am_sin 18 (by decide +kernel) rfl⟩
theorem ki_54 : am_ki am_GG md_54 0 := ⟨am_tin 488 (by decide +kernel) rfl, am_sin 23 (by decide +kernel) rfl⟩
theorem ki_55 : am_ki am_GG md_55 0 := ⟨am_tin 492 (by decide +kernel) rfl, am_sin 24 (by decide +kernel) rfl⟩
theorem ki_56 : am_ki am_GG md_56 0 := ⟨am_tin 500 (by decide +kernel) rfl, am_sin 25 (by decide +kernel) rfl⟩
theorem ki_57 : am_ki am_GG md_57 0 := ⟨am_tin 504 (by decide +kernel) rfl, am_sin 26 (by decide +kernel) rfl⟩
theorem ki_58 : am_ki am_GG md_58 0 := ⟨am_tin 540 (by decide +kernel) rfl, am_sin 31 (by decide +kernel) rfl⟩
theorem ki_59 : am_ki am_GG md_59 0 := ⟨am_tin 508 (by decide +kernel) rfl, am_sin 27 (by decide +kernel) rfl⟩
theorem ki_60 : am_ki am_GG md_60 0 := ⟨am_tin 532 (by decide +kernel) rfl, am_sin 30 (by decide +kernel) rfl⟩
theorem ki_61 : am_ki am_GG md_61 0 := ⟨am_tin 512 (by decide +kernel) rfl, am_sin 28 (by decide +kernel) rfl⟩
theorem ki_62 : am_ki am_GG md_62 0 := ⟨am_tin 443 (by decide +kernel) rfl, am_sin 14 (by decide +kernel) rfl⟩
theorem ki_63 : am_ki am_GG md_63 0 := ⟨am_tin 472 (by decide +kernel) rfl, am_sin 20 (by decide +kernel) rfl⟩
theorem ki_64 : am_ki am_GG md_64 0 := ⟨am_tin 451 (by decide +kernel) rfl, am_sin 16 (by decide +kernel) rfl⟩
theorem ki_65 : am_ki am_GG md_65 0 := ⟨am_tin 520 (by decide +kernel) rfl, am_sin 29 (by decide +kernel) rfl⟩
theorem ki_66 : am_ki am_GG md_66 0 := ⟨am_tin 423 (by decide +kernel) rfl, am_sin 9 (by decide +kernel) rfl⟩
theorem ki_67 : am_ki am_GG md_67 0 := ⟨am_tin 447 (by decide +kernel) rfl, am_sin 15 (by decide +kernel) rfl⟩
theorem ki_68 : am_ki am_GG md_68 2 := am_tin 97 (by decide +kernel) rfl
theorem ki_69 : am_ki am_GG md_69 0 := ⟨am_tin 414 (by decide +kernel) rfl, am_tin 415 (by decide +kernel) rfl⟩
theorem ki_70 : am_ki am_GG md_70 0 := ⟨am_tin 418 (by decide +kernel) rfl, am_tin 419 (by decide +kernel) rfl⟩
theorem ki_71 : am_ki am_GG md_71 0 := ⟨am_tin 483 (by decide +kernel) rfl, am_tin 484 (by decide +kernel) rfl⟩
theorem ki_72 : am_ki am_GG md_72 0 := ⟨am_tin 607 (by decide +kernel) rfl, am_tin 608 (by decide +kernel) rfl⟩
theorem ki_73 : am_ki am_GG md_73 0 := ⟨am_tin 623 (by decide +kernel) rfl, am_tin 624 (by decide +kernel) rfl⟩
theorem ki_74 : am_ki am_GG md_74 0 := ⟨am_tin 535 (by decide +kernel) rfl, am_tin 536 (by decide +kernel) rfl⟩
theorem ki_75 : am_ki am_GG md_75 0 := ⟨am_tin 523 (by decide +kernel) rfl, am_tin 524 (by decide +kernel) rfl⟩
theorem ki_76 : am_ki am_GG md_76 2 := am_tin 237 (by decide +kernel) rfl
theorem ki_77 : am_ki am_GG md_77 0 := ⟨am_tin 762 (by decide +kernel) rfl, am_tin 763 (by decide +kernel) rfl⟩
theorem ki_78 : am_ki am_GG md_78 0 := ⟨am_tin 780 (by decide +kernel) rfl, am_tin 781 (by decide +kernel) rfl⟩
theorem ki_79 : am_ki am_GG md_79 0 := ⟨am_tin 776 (by decide +kernel) rfl, am_tin 777 (by decide +kernel) rfl⟩
theorem ki_80 : am_ki am_GG md_80 2 := am_tin 25 (by decide +kernel) rfl
theorem ki_81 : am_ki am_GG md_81 1 := am_tin 295 (by decide +kernel) rfl
theorem ki_82 : am_ki am_GG md_82 1 := am_tin 374 (by decide +kernel) rfl
theorem ki_83 : am_ki am_GG md_83 1 := am_tin 363 (by decide +kernel) rfl
theorem ki_84 : am_ki am_GG md_84 1 := am_tin 370 (by decide +kernel) rfl
theorem ki_85 : am_ki am_GG md_85 0 := ⟨am_tin 318 (by decide +kernel) rfl, am_tin 319 (by decide +kernel) rfl⟩
theorem ki_86 : am_ki am_GG md_86 0 := ⟨am_tin 301 (by decide +kernel) rfl, am_tin 302 (by decide +kernel) rfl⟩
theorem ki_87 : am_ki am_GG md_87 0 := ⟨am_tin 347 (by decide +kernel) rfl, am_tin 348 (by decide +kernel) rfl⟩
theorem ki_88 : am_ki am_GG md_88 0 := ⟨am_tin 388 (by decide +kernel) rfl, am_tin 389 (by decide +kernel) rfl⟩
theorem ki_89 : am_ki am_GG md_89 0 := ⟨am_tin 366 (by decide +kernel) rfl, am_tin 367 (by decide +kernel) rfl⟩
theorem ki_90 : am_ki am_GG md_90 0 := ⟨am_tin 575 (by decide +kernel) rfl, am_tin 576 (by decide +kernel) rfl⟩
theorem ki_91 : am_ki am_GG md_91 0 := ⟨am_tin 377 (by decide +kernel) rfl, am_tin 378 (by decide +kernel) rfl⟩
theorem ki_92 : am_ki am_GG md_92 2 := am_tin 43 (by decide +kernel) rfl
theorem ki_93 : am_ki am_GG md_93 1 := am_tin 382 (by decide +kernel) rfl
theorem ki_94 : am_ki am_GG md_94 0 := ⟨am_tin 515 (by decide +kernel) rfl, am_tin 516 (by decide +kernel) rfl⟩
theorem ki_95 : am_ki am_GG md_95 0 := ⟨am_tin 669 (by decide +kernel) rfl, am_tin 670 (by decide +kernel) rfl⟩
theorem ki_96 : am_ki am_GG md_96 0 := ⟨am_tin 339 (by decide +kernel) rfl, am_tin 340 (by decide +kernel) rfl⟩
theorem ki_97 : am_ki am_GG md_97 0 := ⟨am_tin 664 (by decide +kernel) rfl, am_tin 665 (by decide +kernel) rfl⟩
theorem ki_98 : am_ki am_GG md_98 0 := ⟨am_tin 330 (by decide +kernel) rfl, am_tin 331 (by decide +kernel) rfl⟩
theorem ki_99 : am_ki am_GG md_99 0 := ⟨am_tin 336 (by decide +kernel) rfl, am_sin 1 (by decide +kernel) rfl⟩
theorem ki_100 : am_ki am_GG md_100 0 := ⟨am_tin 403 (by decide +kernel) rfl, am_sin 7 (by decide +kernel) rfl⟩
theorem ki_101 : am_ki am_GG md_101 0 := ⟨am_tin 352 (by decide +kernel) rfl, am_sin 3 (by decide +kernel) rfl⟩
theorem ki_102 : am_ki am_GG md_102 0 := ⟨am_tin 356 (by decide +kernel) rfl, am_sin 4 (by decide +kernel) rfl⟩
theorem ki_103 : am_ki am_GG md_103 0 := ⟨am_tin 360 (by decide +kernel) rfl, am_sin 5 (by decide +kernel) rfl⟩
theorem ki_104 : am_ki am_GG md_104 1 := am_tin 392 (by decide +kernel) rfl
theorem ki_105 : am_ki am_GG md_105 0 := ⟨am_tin 396 (by decide +kernel) rfl, am_sin 6 (by decide +kernel) rfl⟩
theorem ki_106 : am_ki am_GG md_106 0 := ⟨am_tin 344 (by decide +kernel) rfl, am_sin 2 (by decide +kernel) rfl⟩
theorem ki_107 : am_ki am_GG md_107 0 := ⟨am_tin 527 (by decide +kernel) rfl, am_tin 528 (by decide +kernel) rfl⟩
theorem ki_108 : am_ki am_GG md_108 2 := am_tin 17 (by decide +kernel) rfl
theorem ki_109 : am_ki am_GG md_109 0 := ⟨am_tin 285 (by decide +kernel) rfl, am_tin 286 (by decide +kernel) rfl⟩
theorem ki_110 : am_ki am_GG md_110 0 := ⟨am_tin 310 (by decide +kernel) rfl, am_tin 311 (by decide +kernel) rfl⟩
theorem ki_111 : am_ki am_GG md_111 0 := ⟨am_tin 314 (by decide +kernel) rfl, am_tin 315 (by decide +kernel) rfl⟩
theorem ki_112 : am_ki am_GG md_112 0 := ⟨am_tin 322 (by decide +kernel) rfl, am_tin 323 (by decide +kernel) rfl⟩
theorem ki_113 : am_ki am_GG md_113 0 := ⟨am_tin 660 (by decide +kernel) rfl, am_tin 661 (by decide +kernel) rfl⟩
theorem ki_114 : am_ki am_GG md_114 0 := ⟨am_tin 674 (by decide +kernel) rfl, am_tin 675 (by decide +kernel) rfl⟩
theorem ki_115 : am_ki am_GG md_115 0 := ⟨am_tin 678 (by decide +kernel) rfl, am_tin 679 (by decide +kernel) rfl⟩
theorem ki_116 : am_ki am_GG md_116 0 := ⟨am_tin 682 (by decide +kernel) rfl, am_tin 683 (by decide +kernel) rfl⟩
theorem ki_117 : am_ki am_GG md_117 0 := ⟨am_tin 698 (by decide +kernel) rfl, am_tin 699 (by decide +kernel) rfl⟩
theorem ki_118 : am_ki am_GG md_118 0 := ⟨am_tin 702 (by decide +kernel) rfl, am_tin 703 (by decide +kernel) rfl⟩
theorem ki_119 : am_ki am_GG md_119 0 := ⟨am_tin 708 (by decide +kernel) rfl, am_tin 709 (by decide +kernel) rfl⟩
theorem ki_120 : am_ki am_GG md_120 0 := ⟨am_tin 712 (by decide +kernel) rfl, am_tin 713 (by decide +kernel) rfl⟩
theorem ki_121 : am_ki am_GG md_121 0 := ⟨am_tin 716 (by decide +kernel) rfl, am_tin 717 (by decide +kernel) rfl⟩
theorem ki_122 : am_ki am_GG md_122 0 := ⟨am_tin 736 (by decide +kernel) rfl, am_tin 737 (by decide +kernel) rfl⟩
theorem ki_123 : am_ki am_GG md_123 0 := ⟨am_tin 742 (by decide +kernel) rfl, am_tin 743 (by decide +kernel) rfl⟩
theorem ki_124 : am_ki am_GG md_124 0 := ⟨am_tin 746 (by decide +kernel) rfl, am_tin 747 (by decide +kernel) rfl⟩
theorem ki_125 : am_ki am_GG md_125 0 := ⟨am_tin 773 (by decide +kernel) rfl, am_sin 55 (by decide +kernel) rfl⟩
theorem ki_126 : am_ki am_GG md_126 0 := ⟨am_tin 327 (by decide +kernel) rfl, am_sin 0 (by decide +kernel) rfl⟩
theorem ki_127 : am_ki am_GG md_127 0 := ⟨am_tin 556 (by decide +kernel) rfl, am_sin 35 (by decide +kernel) rfl⟩
theorem ki_128 : am_ki am_GG md_128 0 := ⟨am_tin 725 (by decide +kernel) rfl, am_sin 54 (by decide +kernel) rfl⟩
theorem ki_129 : am_ki am_GG md_129 0 := ⟨am_tin 721 (by decide +kernel) rfl, am_sin 53 (by decide +kernel) rfl⟩
theorem ki_130 : am_ki am_GG md_130 2 := am_tin 786 (by decide +kernel) rfl
theorem ki_131 : am_ki am_GG md_131 1 := am_tin 906 (by decide +kernel) rfl
theorem ki_132 : am_ki am_GG md_132 0 := ⟨am_tin 902 (by decide +kernel) rfl, am_tin 903 (by decide +kernel) rfl⟩
theorem ki_133 : am_ki am_GG md_133 0 := ⟨am_tin 910 (by decide +kernel) rfl, am_sin 56 (by decide +kernel) rfl⟩
theorem ki_134 : am_ki am_GG md_134 0 := ⟨am_tin 913 (by decide +kernel) rfl, am_tin 914 (by decide +kernel) rfl⟩
theorem ki_135 : am_ki am_GG md_135 0 := ⟨am_tin 917 (by decide +kernel) rfl, am_tin 918 (by decide +kernel) rfl⟩
theorem ki_136 : am_ki am_GG md_136 0 := ⟨am_tin 926 (by decide +kernel) rfl, am_sin 57 (by decide +kernel) rfl⟩
theorem ki_137 : am_ki am_GG md_137 1 := am_tin 952 (by decide +kernel) rfl
theorem ki_138 : am_ki am_GG md_138 1 := am_tin 949 (by decide +kernel) rfl
theorem ki_139 : am_ki am_GG md_139 1 := am_tin 956 (by decide +kernel) rfl
theorem ki_140 : am_ki am_GG md_140 0 := ⟨am_tin 938 (by decide +kernel) rfl, am_sin 60 (by decide +kernel) rfl⟩
theorem ki_141 : am_ki am_GG md_141 0 := ⟨am_tin 930 (by decide +kernel) rfl, am_sin 58 (by decide +kernel) rfl⟩
theorem ki_142 : am_ki am_GG md_142 0 := ⟨am_tin 934 (by decide +kernel) rfl, am_sin 59 (by decide +kernel) rfl⟩
theorem ki_143 : am_ki am_GG md_143 0 := ⟨am_tin 942 (by decide +kernel) rfl, am_sin 61 (by decide +kernel) rfl⟩
theorem ki_144 : am_ki am_GG md_144 0 := ⟨am_tin 946 (by decide +kernel) rfl, am_sin 62 (by decide +kernel) rfl⟩
theorem ki_145 : am_ki am_GG md_145 0 := ⟨am_tin 982 (by decide +kernel) rfl, am_sin 65 (by decide +kernel) rfl⟩
theorem ki_146 : am_ki am_GG md_146 0 := ⟨am_tin 998 (by decide +kernel) rfl, am_sin 69 (by decide +kernel) rfl⟩
theorem ki_147 : am_ki am_GG md_147 0 := ⟨am_tin 1014 (by decide +kernel) rfl, am_sin 73 (by decide +kernel) rfl⟩
theorem ki_148 : am_ki am_GG md_148 0 := ⟨am_tin 1026 (by decide +kernel) rfl, am_sin 76 (by decide +kernel) rfl⟩
theorem ki_149 : am_ki am_GG md_149 0 := ⟨am_tin 994 (by decide +kernel) rfl, am_sin 68 (by decide +kernel) rfl⟩
theorem ki_150 : am_ki am_GG md_150 0 := ⟨am_tin 1002 (by decide +kernel) rfl, am_sin 70 (by decide +kernel) rfl⟩
theorem ki_151 : am_ki am_GG md_151 0 := ⟨am_tin 978 (by decide +kernel) rfl, am_sin 64 (by decide +kernel) rfl⟩
theorem ki_152 : am_ki am_GG md_152 0 := ⟨am_tin 1022 (by decide +kernel) rfl, am_sin 75 (by decide +kernel) rfl⟩
theorem ki_153 : am_ki am_GG md_153 0 := ⟨am_tin 974 (by decide +kernel) rfl, am_sin 63 (by decide +kernel) rfl⟩
theorem ki_154 : am_ki am_GG md_154 0 := ⟨am_tin 986 (by decide +kernel) rfl, am_sin 66 (by decide +kernel) rfl⟩
theorem ki_155 : am_ki am_GG md_155 0 := ⟨am_tin 990 (by decide +kernel) rfl, am_sin 67 (by decide +kernel) rfl⟩
theorem ki_156 : am_ki am_GG md_156 0 := ⟨am_tin 1006 (by decide +kernel) rfl, am_sin 71 (by decide +kernel) rfl⟩
theorem ki_157 : am_ki am_GG md_157 0 := ⟨am_tin 1010 (by decide +kernel) rfl, am_sin 72 (by decide +kernel) rfl⟩
theorem ki_158 : am_ki am_GG md_158 0 := ⟨am_tin 1018 (by decide +kernel) rfl, am_sin 74 (by decide +kernel) rfl⟩
theorem ki_159 : am_ki am_GG md_159 0 := ⟨am_tin 1030 (by decide +kernel) rfl, am_sin 77 (by decide +kernel) rfl⟩
theorem ki_160 : am_ki am_GG md_160 0 := ⟨am_tin 1034 (by decide +kernel) rfl, am_sin 78 (by decide +kernel) rfl⟩
theorem ki_161 : am_ki am_GG md_161 0 := ⟨am_tin 1038 (by decide +kernel) rfl, am_sin 79 (by decide +kernel) rfl⟩
theorem ki_162 : am_ki am_GG md_162 0 := ⟨am_tin 1042 (by decide +kernel) rfl, am_sin 80 (by decide +kernel) rfl⟩
theorem ki_163 : am_ki am_GG md_163 0 := ⟨am_tin 1046 (by decide +kernel) rfl, am_sin 81 (by decide +kernel) rfl⟩
theorem ki_164 : am_ki am_GG md_164 0 := ⟨am_tin 1050 (by decide +kernel) rfl, am_sin 82 (by decide +kernel) rfl⟩
theorem ki_165 : am_ki am_GG md_165 0 := ⟨am_tin 1070 (by decide +kernel) rfl, am_sin 87 (by decide +kernel) rfl⟩
theorem ki_166 : am_ki am_GG md_166 0 := ⟨am_tin 1066 (by decide +kernel) rfl, am_sin 86 (by decide +kernel) rfl⟩
theorem ki_167 : am_ki am_GG md_167 0 := ⟨am_tin 1074 (by decide +kernel) rfl, am_sin 88 (by decide +kernel) rfl⟩
theorem ki_168 : am_ki am_GG md_168 0 := ⟨am_tin 1062 (by decide +kernel) rfl, am_sin 85 (by decide +kernel) rfl⟩
theorem ki_169 : am_ki am_GG md_169 0 := ⟨am_tin 1054 (by decide +kernel) rfl, am_sin 83 (by decide +kernel) rfl⟩
theorem ki_170 : am_ki am_GG md_170 0 := ⟨am_tin 1082 (by decide +kernel) rfl, am_sin 90 (by decide +kernel) rfl⟩
theorem ki_171 : am_ki am_GG md_171 0 := ⟨am_tin 1166 (by decide +kernel) rfl, am_sin 102 (by decide +kernel) rfl⟩
theorem ki_172 : am_ki am_GG md_172 0 := ⟨am_tin 1090 (by decide +kernel) rfl, am_sin 92 (by decide +kernel) rfl⟩
theorem ki_173 : am_ki am_GG md_173 0 := ⟨am_tin 1078 (by decide +kernel) rfl, am_sin 89 (by decide +kernel) rfl⟩
theorem ki_174 : am_ki am_GG md_174 0 := ⟨am_tin 1098 (by decide +kernel) rfl, am_sin 94 (by decide +kernel) rfl⟩
theorem ki_175 : am_ki am_GG md_175 0 := ⟨am_tin 1086 (by decide +kernel) rfl, am_sin 91 (by decide +kernel) rfl⟩
theorem ki_176 : am_ki am_GG md_176 0 := ⟨am_tin 1058 (by decide +kernel) rfl, am_sin 84 (by decide +kernel) rfl⟩
theorem ki_177 : am_ki am_GG md_177 0 := ⟨am_tin 1094 (by decide +kernel) rfl, am_sin 93 (by decide +kernel) rfl⟩
theorem ki_178 : am_ki am_GG md_178 0 := ⟨am_tin 1102 (by decide +kernel) rfl, am_sin 95 (by decide +kernel) rfl⟩
theorem ki_179 : am_ki am_GG md_179 0 := ⟨am_tin 1158 (by decide +kernel) rfl, am_sin 100 (by decide +kernel) rfl⟩
theorem ki_180 : am_ki am_GG md_180 0 := ⟨am_tin 1162 (by decide +kernel) rfl, am_sin 101 (by decide +kernel) rfl⟩
theorem ki_181 : am_ki am_GG md_181 0 := ⟨am_tin 1154 (by decide +kernel) rfl, am_sin 99 (by decide +kernel) rfl⟩
theorem ki_182 : am_ki am_GG md_182 0 := ⟨am_tin 1150 (by decide +kernel) rfl, am_sin 98 (by decide +kernel) rfl⟩
theorem ki_183 : am_ki am_GG md_183 0 := ⟨am_tin 1146 (by decide +kernel) rfl, am_sin 97 (by decide +kernel) rfl⟩
theorem ki_184 : am_ki am_GG md_184 0 := ⟨am_tin 1174 (by decide +kernel) rfl, am_sin 103 (by decide +kernel) rfl⟩
theorem ki_185 : am_ki am_GG md_185 0 := ⟨am_tin 921 (by decide +kernel) rfl, am_tin 922 (by decide +kernel) rfl⟩
theorem ki_186 : am_ki am_GG md_186 0 := ⟨am_tin 1105 (by decide +kernel) rfl, am_tin 1106 (by decide +kernel) rfl⟩
theorem ki_187 : am_ki am_GG md_187 0 := ⟨am_tin 1109 (by decide +kernel) rfl, am_tin 1110 (by decide +kernel) rfl⟩
theorem ki_188 : am_ki am_GG md_188 0 := ⟨am_tin 1113 (by decide +kernel) rfl, am_tin 1114 (by decide +kernel) rfl⟩
theorem ki_189 : am_ki am_GG md_189 0 := ⟨am_tin 1117 (by decide +kernel) rfl, am_tin 1118 (by decide +kernel) rfl⟩
theorem ki_190 : am_ki am_GG md_190 0 := ⟨am_tin 1122 (by decide +kernel) rfl, am_sin 96 (by decide +kernel) rfl⟩
theorem ki_191 : am_ki am_GG md_191 0 := ⟨am_tin 1125 (by decide +kernel) rfl, am_tin 1126 (by decide +kernel) rfl⟩
theorem ki_192 : am_ki am_GG md_192 0 := ⟨am_tin 1129 (by decide +kernel) rfl, am_tin 1130 (by decide +kernel) rfl⟩
theorem ki_193 : am_ki am_GG md_193 0 := ⟨am_tin 1133 (by decide +kernel) rfl, am_tin 1134 (by decide +kernel) rfl⟩
theorem ki_194 : am_ki am_GG md_194 0 := ⟨am_tin 1137 (by decide +kernel) rfl, am_tin 1138 (by decide +kernel) rfl⟩
theorem ki_195 : am_ki am_GG md_195 0 := ⟨am_tin 1141 (by decide +kernel) rfl, am_tin 1142 (by decide +kernel) rfl⟩
theorem ki_196 : am_ki am_GG md_196 0 := ⟨am_tin 1169 (by decide +kernel) rfl, am_tin 1170 (by decide +kernel) rfl⟩
theorem ki_197 : am_ki am_GG md_197 0 := ⟨am_tin 1177 (by decide +kernel) rfl, am_tin 1178 (by decide +kernel) rfl⟩
theorem ki_198 : am_ki am_GG md_198 1 := am_tin 1185 (by decide +kernel) rfl
theorem ki_199 : am_ki am_GG md_199 0 := ⟨am_tin 1189 (by decide +kernel) rfl, am_sin 104 (by decide +kernel) rfl⟩
theorem ki_200 : am_ki am_GG md_200 0 := ⟨am_tin 1181 (by decide +kernel) rfl, am_tin 1182 (by decide +kernel) rfl⟩
theorem ki_201 : am_ki am_GG md_201 0 := ⟨am_tin 1193 (by decide +kernel) rfl, am_sin 105 (by decide +kernel) rfl⟩
set_option maxRecDepth 100000 in
theorem mc_1 : am_mc am_GG md_1 := ⟨am_tin 214 rfl rfl, am_tin 8 (by decide +kernel) rfl, by decide +kernel, ⟨by decide +kernel, by decide +kernel⟩, by decide +kernel⟩
set_option maxRecDepth 100000 in
theorem mc_2 : am_mc am_GG md_2 := ⟨am_tin 561 rfl rfl, am_tin 8 (by decide +kernel) rfl, by decide +kernel, ⟨by decide +kernel, by decide +kernel⟩, by decide +kernel⟩
set_option maxRecDepth 100000 in
theorem mc_3 : am_mc am_GG md_3 := ⟨am_tin 565 rfl rfl, am_tin 8 (by decide +kernel) rfl, by decide +kernel, ⟨by decide +kernel, by decide +kernel⟩, by decide +kernel⟩
set_option maxRecDepth 100000 in
theorem mc_4 : am_mc am_GG md_4 := ⟨am_tin 569 rfl rfl, am_tin 8 (by decide +kernel) rfl, by decide +kernel, ⟨by decide +kernel, by decide +kernel⟩, by decide +kernel⟩
set_option maxRecDepth 100000 in
theorem mc_5 : am_mc am_GG md_5 := ⟨am_tin 581 rfl rfl, am_tin 8 (by decide +kernel) rfl, by decide +kernel, ⟨by decide +kernel, by decide +kernel⟩, by decide +kernel⟩
set_option maxRecDepth 100000 in
theorem mc_6 : am_mc am_GG md_6 := ⟨am_tin 585 rfl rfl, am_tin 8 (by decide +kernel) rfl, by decide +kernel, ⟨by decide +kernel, by decide +kernel⟩, by decide +kernel⟩
set_option maxRecDepth 100000 in
theorem mc_7 : am_mc am_GG md_7 := ⟨am_tin 593 rfl rfl, am_tin 8 (by decide +kernel) rfl, by decide +kernel, ⟨by decide +kernel, by decide +kernel⟩, by decide +kernel⟩
set_option maxRecDepth 100000 in
theorem mc_8 : am_mc am_GG md_8 := ⟨am_tin 601 rfl rfl, am_tin 8 (by decide +kernel) rfl, by decide +kernel, ⟨by decide +kernel, by decide +kernel⟩, by decide +kernel⟩
set_option maxRecDepth 100000 in
theorem mc_9 : am_mc am_GG md_9 := ⟨am_tin 617 rfl rfl, am_tin 8 (by decide +kernel) rfl, by decide +kernel, ⟨by decide +kernel, by decide +kernel⟩, by decide +kernel⟩
set_option maxRecDepth 100000 in
theorem mc_10 : am_mc am_GG md_10 := ⟨am_tin 621 rfl rfl, am_tin 8 (by decide +kernel) rfl, by decide +kernel, ⟨by decide +kernel, by decide +kernel⟩, by decide +kernel⟩
set_option maxRecDepth 100000 in
theorem mc_11 : am_mc am_GG md_11 := ⟨am_tin 605 rfl rfl, am_tin 8 (by decide +kernel) rfl, by decide +kernel, ⟨by decide +kernel, by decide +kernel⟩, by decide +kernel⟩
set_option maxRecDepth 100000 in
theorem mc_12 : am_mc am_GG md_12 := ⟨am_tin 613 rfl rfl, am_tin 8 (by decide +kernel) rfl, by decide +kernel, ⟨by decide +kernel, by decide +kernel⟩, by decide +kernel⟩
set_option maxRecDepth 100000 in
theorem mc_13 : am_mc am_GG md_13 := ⟨am_tin 629 rfl rfl, am_tin 8 (by decide +kernel) rfl, by decide +kernel, ⟨by decide +kernel, by decide +kernel⟩, by decide +kernel⟩
set_option maxRecDepth 100000 in
theorem mc_14 : am_mc am_GG md_14 := ⟨am_tin 633 rfl rfl, am_tin 8 (by decide +kernel) rfl, by decide +kernel, ⟨by decide +kernel, by decide +kernel⟩, by decide +kernel⟩
set_option maxRecDepth 100000 in
theorem mc_15 : am_mc am_GG md_15 := ⟨am_tin 637 rfl rfl, am_tin 8 (by decide +kernel) rfl, by decide +kernel, ⟨by decide +kernel, by decide +kernel⟩, by decide +kernel⟩
set_option maxRecDepth 100000 in
theorem mc_16 : am_mc am_GG md_16 := ⟨am_tin 646 rfl rfl, am_tin 8 (by decide +kernel) rfl, by decide +kernel, ⟨by decide +kernel, by decide +kernel⟩, by decide +kernel⟩
set_option maxRecDepth 100000 in
theorem mc_17 : am_mc am_GG md_17 := ⟨am_tin 650 rfl rfl, am_tin 8 (by decide +kernel) rfl, by decide +kernel, ⟨by decide +kernel, by decide +kernel⟩, by decide +kernel⟩
set_option maxRecDepth 100000 in
theorem mc_18 : am_mc am_GG md_18 := ⟨am_tin 654 rfl rfl, am_tin 8 (by decide +kernel) rfl, by decide +kernel, ⟨by decide +kernel, by decide +kernel⟩, by decide +kernel⟩
set_option maxRecDepth 100000 in
theorem mc_19 : am_mc am_GG md_19 := ⟨am_tin 293 rfl rfl, am_tin 11 (by decide +kernel) rfl, by decide +kernel, ⟨by decide +kernel, by decide +kernel⟩, by decide +kernel⟩
set_option maxRecDepth 100000 in
theorem mc_20 : am_mc am_GG md_20 := ⟨am_tin 299 rfl rfl, am_tin 11 (by decide +kernel) rfl, by decide +kernel, ⟨by decide +kernel, by decide +kernel⟩, by decide +kernel⟩
set_option maxRecDepth 100000 in
theorem mc_21 : am_mc am_GG md_21 := ⟨am_tin 290 rfl rfl, am_tin 11 (by decide +kernel) rfl, by decide +kernel, ⟨by decide +kernel, by decide +kernel⟩, by decide +kernel⟩
set_option maxRecDepth 100000 in
theorem mc_22 : am_mc am_GG md_22 := ⟨am_tin 751 rfl rfl, am_tin 11 (by decide +kernel) rfl, by decide +kernel, ⟨by decide +kernel, by decide +kernel⟩, by decide +kernel⟩
set_option maxRecDepth 100000 in
theorem mc_23 : am_mc am_GG md_23 := ⟨am_tin 81 rfl rfl, am_tin 4 (by decide +kernel) rfl, by decide +kernel, ⟨by decide +kernel, by decide +kernel⟩, by decide +kernel⟩
set_option maxRecDepth 100000 in
theorem mc_24 : am_mc am_GG md_24 := ⟨am_tin 497 rfl rfl, am_tin 4 (by decide +kernel) rfl, by decide +kernel, ⟨by decide +kernel, by decide +kernel⟩, by decide +kernel⟩
set_option maxRecDepth 100000 in
theorem mc_25 : am_mc am_GG md_25 := ⟨am_tin 688 rfl rfl, am_tin 4 (by decide +kernel) rfl, by decide +kernel, ⟨by decide +kernel, by decide +kernel⟩, by decide +kernel⟩
set_option maxRecDepth 100000 in
theorem mc_26 : am_mc am_GG md_26 := ⟨am_tin 696 rfl rfl, am_tin 4 (by decide +kernel) rfl, by decide +kernel, ⟨by decide +kernel, by decide +kernel⟩, by decide +kernel⟩
set_option maxRecDepth 100000 in
theorem mc_27 : am_mc am_GG md_27 := ⟨am_tin 692 rfl rfl, am_tin 4 (by decide +kernel) rfl, by decide +kernel, ⟨by decide +kernel, by decide +kernel⟩, by decide +kernel⟩
set_option maxRecDepth 100000 in
theorem mc_28 : am_mc am_GG md_28 := ⟨am_tin 119 rfl rfl, am_tin 6 (by decide +kernel) rfl, by decide +kernel, ⟨by decide +kernel, by decide +kernel⟩, by decide +kernel⟩
set_option maxRecDepth 100000 in
theorem mc_29 : am_mc am_GG md_29 := ⟨am_tin 456 rfl rfl, am_tin 6 (by decide +kernel) rfl, by decide +kernel, ⟨by decide +kernel, by decide +kernel⟩, by decide +kernel⟩
set_option maxRecDepth 100000 in
theorem mc_30 : am_mc am_GG md_30 := ⟨am_tin 730 rfl rfl, am_tin 6 (by decide +kernel) rfl, by decide +kernel, ⟨by decide +kernel, by decide +kernel⟩, by decide +kernel⟩
set_option maxRecDepth 100000 in
theorem mc_31 : am_mc am_GG md_31 := ⟨am_tin 573 rfl rfl, am_tin 6 (by decide +kernel) rfl, by decide +kernel, ⟨by decide +kernel, by decide +kernel⟩, by decide +kernel⟩
set_option maxRecDepth 100000 in
theorem mc_32 : am_mc am_GG md_32 := ⟨am_tin 589 rfl rfl, am_tin 6 (by decide +kernel) rfl, by decide +kernel, ⟨by decide +kernel, by decide +kernel⟩, by decide +kernel⟩
set_option maxRecDepth 100000 in
theorem mc_33 : am_mc am_GG md_33 := ⟨am_tin 641 rfl rfl, am_tin 6 (by decide +kernel) rfl, by decide +kernel, ⟨by decide +kernel, by decide +kernel⟩, by decide +kernel⟩
set_option maxRecDepth 100000 in
theorem mc_34 : am_mc am_GG md_34 := ⟨am_tin 597 rfl rfl, am_tin 6 (by decide +kernel) rfl, by decide +kernel, ⟨by decide +kernel, by decide +kernel⟩, by decide +kernel⟩
set_option maxRecDepth 100000 in
theorem mc_35 : am_mc am_GG md_35 := ⟨am_tin 658 rfl rfl, am_tin 6 (by decide +kernel) rfl, by decide +kernel, ⟨by decide +kernel, by decide +kernel⟩, by decide +kernel⟩
set_option maxRecDepth 100000 in
theorem mc_36 : am_mc am_GG md_36 := ⟨am_tin 770 rfl rfl, am_tin 6 (by decide +kernel) rfl, by decide +kernel, ⟨by decide +kernel, by decide +kernel⟩, by decide +kernel⟩
set_option maxRecDepth 100000 in
theorem mc_37 : am_mc am_GG md_37 := ⟨am_tin 758 rfl rfl, am_tin 6 (by decide +kernel) rfl, by decide +kernel, ⟨by decide +kernel, by decide +kernel⟩, by decide +kernel⟩
set_option maxRecDepth 100000 in
theorem mc_38 : am_mc am_GG md_38 := ⟨am_tin 734 rfl rfl, am_tin 6 (by decide +kernel) rfl, by decide +kernel, ⟨by decide +kernel, by decide +kernel⟩, by decide +kernel⟩
set_option maxRecDepth 100000 in
theorem mc_39 : am_mc am_GG md_39 := ⟨am_tin 165 rfl rfl, am_tin 7 (by decide +kernel) rfl, by decide +kernel, ⟨by decide +kernel, by decide +kernel⟩, by decide +kernel⟩
set_option maxRecDepth 100000 in
theorem mc_40 : am_mc am_GG md_40 := ⟨am_tin 408 rfl rfl, am_tin 7 (by decide +kernel) rfl, by decide +kernel, ⟨by decide +kernel, by decide +kernel⟩, by decide +kernel⟩
set_option maxRecDepth 100000 in
theorem mc_41 : am_mc am_GG md_41 := ⟨am_tin 412 rfl rfl, am_tin 7 (by decide +kernel) rfl, by decide +kernel, ⟨by decide +kernel, by decide +kernel⟩, by decide +kernel⟩
set_option maxRecDepth 100000 in
theorem mc_42 : am_mc am_GG md_42 := ⟨am_tin 428 rfl rfl, am_tin 7 (by decide +kernel) rfl, by decide +kernel, ⟨by decide +kernel, by decide +kernel⟩, by decide +kernel⟩
set_option maxRecDepth 100000 in
theorem mc_43 : am_mc am_GG md_43 := ⟨am_tin 432 rfl rfl, am_tin 7 (by decide +kernel) rfl, by decide +kernel, ⟨by decide +kernel, by decide +kernel⟩, by decide +kernel⟩
set_option maxRecDepth 100000 in
theorem mc_44 : am_mc am_GG md_44 := ⟨am_tin 436 rfl rfl, am_tin 7 (by decide +kernel) rfl, by decide +kernel, ⟨by decide +kernel, by decide +kernel⟩, by decide +kernel⟩
set_option maxRecDepth 100000 in
theorem mc_45 : am_mc am_GG md_45 := ⟨am_tin 440 rfl rfl, am_tin 7 (by decide +kernel) rfl, by decide +kernel, ⟨by decide +kernel, by decide +kernel⟩, by decide +kernel⟩
set_option maxRecDepth 100000 in
theorem mc_46 : am_mc am_GG md_46 := ⟨am_tin 549 rfl rfl, am_tin 7 (by decide +kernel) rfl, by decide +kernel, ⟨by decide +kernel, by decide +kernel⟩, by decide +kernel⟩
set_option maxRecDepth 100000 in
theorem mc_47 : am_mc am_GG md_47 := ⟨am_tin 553 rfl rfl, am_tin 7 (by decide +kernel) rfl, by decide +kernel, ⟨by decide +kernel, by decide +kernel⟩, by decide +kernel⟩
set_option maxRecDepth 100000 in
theorem mc_48 : am_mc am_GG md_48 := ⟨am_tin 469 rfl rfl, am_tin 7 (by decide +kernel) rfl, by decide +kernel, ⟨by decide +kernel, by decide +kernel⟩, by decide +kernel⟩
set_option maxRecDepth 100000 in
theorem mc_49 : am_mc am_GG md_49 := ⟨am_tin 545 rfl rfl, am_tin 7 (by decide +kernel) rfl, by decide +kernel, ⟨by decide +kernel, by decide +kernel⟩, by decide +kernel⟩
set_option maxRecDepth 100000 in
theorem mc_50 : am_mc am_GG md_50 := ⟨am_tin 477 rfl rfl, am_tin 7 (by decide +kernel) rfl, by decide +kernel, ⟨by decide +kernel, by decide +kernel⟩, by decide +kernel⟩
set_option maxRecDepth 100000 in
theorem mc_51 : am_mc am_GG md_51 := ⟨am_tin 481 rfl rfl, am_tin 7 (by decide +kernel) rfl, by decide +kernel, ⟨by decide +kernel, by decide +kernel⟩, by decide +kernel⟩
set_option maxRecDepth 100000 in
theorem mc_52 : am_mc am_GG md_52 := ⟨am_tin 461 rfl rfl, am_tin 7 (by decide +kernel) rfl, by decide +kernel, ⟨by decide +kernel, by decide +kernel⟩, by decide +kernel⟩
set_option maxRecDepth 100000 in
theorem mc_53 : am_mc am_GG md_53 := ⟨am_tin 465 rfl rfl, am_tin 7 (by decide +kernel) rfl, by decide +kernel, ⟨by decide +kernel, by decide +kernel⟩, by decide +kernel⟩
set_option maxRecDepth 100000 in
theorem mc_54 : am_mc am_GG md_54 := ⟨am_tin 489 rfl rfl, am_tin 7 (by decide +kernel) rfl, by decide +kernel, ⟨by decide +kernel, by decide +kernel⟩, by decide +kernel⟩
set_option maxRecDepth 100000 in
theorem mc_55 : am_mc am_GG md_55 := ⟨am_tin 493 rfl rfl, am_tin 7 (by decide +kernel) rfl, by decide +kernel, ⟨by decide +kernel, by decide +kernel⟩, by decide +kernel⟩
set_option maxRecDepth 100000 in
theorem mc_56 : am_mc am_GG md_56 := ⟨am_tin 501 rfl rfl, am_tin 7 (by decide +kernel) rfl, by decide +kernel, ⟨by decide +kernel, by decide +kernel⟩, by decide +kernel⟩
set_option maxRecDepth 100000 in
theorem mc_57 : am_mc am_GG md_57 := ⟨am_tin 505 rfl rfl, am_tin 7 (by decide +kernel) rfl, by decide +kernel, ⟨by decide +kernel, by decide +kernel⟩, by decide +kernel⟩
set_option maxRecDepth 100000 in
theorem mc_58 : am_mc am_GG md_58 := ⟨am_tin 541 rfl rfl, am_tin 7 (by decide +kernel) rfl, by decide +kernel, ⟨by decide +kernel, by decide +kernel⟩, by decide +kernel⟩
set_option maxRecDepth 100000 in
theorem mc_59 : am_mc am_GG md_59 := ⟨am_tin 509 rfl rfl, am_tin 7 (by decide +kernel) rfl, by decide +kernel, ⟨by decide +kernel, by decide +kernel⟩, by decide +kernel⟩
set_option maxRecDepth 100000 in
theorem mc_60 : am_mc am_GG md_60 := ⟨am_tin 533 rfl rfl, am_tin 7 (by decide +kernel) rfl, by decide +kernel, ⟨by decide +kernel, by decide +kernel⟩, by decide +kernel⟩
set_option maxRecDepth 100000 in
theorem mc_61 : am_mc am_GG md_61 := ⟨am_tin 513 rfl rfl, am_tin 7 (by decide +kernel) rfl, by decide +kernel, ⟨by decide +kernel, by decide +kernel⟩, by decide +kernel⟩
set_option maxRecDepth 100000 in
theorem mc_62 : am_mc am_GG md_62 := ⟨am_tin 444 rfl rfl, am_tin 7 (by decide +kernel) rfl, by decide +kernel, ⟨by decide +kernel, by decide +kernel⟩, by decide +kernel⟩
set_option maxRecDepth 100000 in
theorem mc_63 : am_mc am_GG md_63 := ⟨am_tin 473 rfl rfl, am_tin 7 (by decide +kernel) rfl, by decide +kernel, ⟨by decide +kernel, by decide +kernel⟩, by decide +kernel⟩
set_option maxRecDepth 100000 in
theorem mc_64 : am_mc am_GG md_64 := ⟨am_tin 452 rfl rfl, am_tin 7 (by decide +kernel) rfl, by decide +kernel, ⟨by decide +kernel, by decide +kernel⟩, by decide +kernel⟩
set_option maxRecDepth 100000 in
theorem mc_65 : am_mc am_GG md_65 := ⟨am_tin 521 rfl rfl, am_tin 7 (by decide +kernel) rfl, by decide +kernel, ⟨by decide +kernel, by decide +kernel⟩, by decide +kernel⟩
set_option maxRecDepth 100000 in
theorem mc_66 : am_mc am_GG md_66 := ⟨am_tin 424 rfl rfl, am_tin 7 (by decide +kernel) rfl, by decide +kernel, ⟨by decide +kernel, by decide +kernel⟩, by decide +kernel⟩
set_option maxRecDepth 100000 in
theorem mc_67 : am_mc am_GG md_67 := ⟨am_tin 448 rfl rfl, am_tin 7 (by decide +kernel) rfl, by decide +kernel, ⟨by decide +kernel, by decide +kernel⟩, by decide +kernel⟩
set_option maxRecDepth 100000 in
theorem mc_68 : am_mc am_GG md_68 := ⟨am_tin 98 rfl rfl, am_tin 5 (by decide +kernel) rfl, by decide +kernel, ⟨by decide +kernel, by decide +kernel⟩, by decide +kernel⟩
set_option maxRecDepth 100000 in
theorem mc_69 : am_mc am_GG md_69 := ⟨am_tin 416 rfl rfl, am_tin 5 (by decide +kernel) rfl, by decide +kernel, ⟨by decide +kernel, by decide +kernel⟩, by decide +kernel⟩
set_option maxRecDepth 100000 in
theorem mc_70 : am_mc am_GG md_70 := ⟨am_tin 420 rfl rfl, am_tin 5 (by decide +kernel) rfl, by decide +kernel, ⟨by decide +kernel, by decide +kernel⟩, by decide +kernel⟩
set_option maxRecDepth 100000 in
theorem mc_71 : am_mc am_GG md_71 := ⟨am_tin 485 rfl rfl, am_tin 5 (by decide +kernel) rfl, by decide +kernel, ⟨by decide +kernel, by decide +kernel⟩, by decide +kernel⟩
set_option maxRecDepth 100000 in
theorem mc_72 : am_mc am_GG md_72 := ⟨am_tin 609 rfl rfl, am_tin 5 (by decide +kernel) rfl, by decide +kernel, ⟨by decide +kernel, by decide +kernel⟩, by decide +kernel⟩
set_option maxRecDepth 100000 in
theorem mc_73 : am_mc am_GG md_73 := ⟨am_tin 625 rfl rfl, am_tin 5 (by decide +kernel) rfl, by decide +kernel, ⟨by decide +kernel, by decide +kernel⟩, by decide +kernel⟩
set_option maxRecDepth 100000 in
theorem mc_74 : am_mc am_GG md_74 := ⟨am_tin 537 rfl rfl, am_tin 5 (by decide +kernel) rfl, by decide +kernel, ⟨by decide +kernel, by decide +kernel⟩, by decide +kernel⟩
set_option maxRecDepth 100000 in
theorem mc_75 : am_mc am_GG md_75 := ⟨am_tin 525 rfl rfl, am_tin 5 (by decide +kernel) rfl, by decide +kernel, ⟨by decide +kernel, by decide +kernel⟩, by decide +kernel⟩
set_option maxRecDepth 100000 in
theorem mc_76 : am_mc am_GG md_76 := ⟨am_tin 238 rfl rfl, am_tin 9 (by decide +kernel) rfl, by decide +kernel, ⟨by decide +kernel, by decide +kernel⟩, by decide +kernel⟩
set_option maxRecDepth 100000 in
theorem mc_77 : am_mc am_GG md_77 := ⟨am_tin 764 rfl rfl, am_tin 9 (by decide +kernel) rfl, by decide +kernel, ⟨by decide +kernel, by decide +kernel⟩, by decide +kernel⟩
set_option maxRecDepth 100000 in
theorem mc_78 : am_mc am_GG md_78 := ⟨am_tin 782 rfl rfl, am_tin 9 (by decide +kernel) rfl, by decide +kernel, ⟨by decide +kernel, by decide +kernel⟩, by decide +kernel⟩
set_option maxRecDepth 100000 in
theorem mc_79 : am_mc am_GG md_79 := ⟨am_tin 778 rfl rfl, am_tin 9 (by decide +kernel) rfl, by decide +kernel, ⟨by decide +kernel, by decide +kernel⟩, by decide +kernel⟩
set_option maxRecDepth 100000 in
theorem mc_80 : am_mc am_GG md_80 := ⟨am_tin 26 rfl rfl, am_tin 2 (by decide +kernel) rfl, by decide +kernel, ⟨by decide +kernel, by decide +kernel⟩, by decide +kernel⟩
set_option maxRecDepth 100000 in
theorem mc_81 : am_mc am_GG md_81 := ⟨am_tin 296 rfl rfl, am_tin 2 (by decide +kernel) rfl, by decide +kernel, ⟨by decide +kernel, by decide +kernel⟩, by decide +kernel⟩
set_option maxRecDepth 100000 in
theorem mc_82 : am_mc am_GG md_82 := ⟨am_tin 375 rfl rfl, am_tin 2 (by decide +kernel) rfl, by decide +kernel, ⟨by decide +kernel, by decide +kernel⟩, by decide +kernel⟩
set_option maxRecDepth 100000 in
theorem mc_83 : am_mc am_GG md_83 := ⟨am_tin 364 rfl rfl, am_tin 2 (by decide +kernel) rfl, by decide +kernel, ⟨by decide +kernel, by decide +kernel⟩, by decide +kernel⟩
set_option maxRecDepth 100000 in
theorem mc_84 : am_mc am_GG md_84 := ⟨am_tin 371 rfl rfl, am_tin 2 (by decide +kernel) rfl, by decide +kernel, ⟨by decide +kernel, by decide +kernel⟩, by decide +kernel⟩
set_option maxRecDepth 100000 in
theorem mc_85 : am_mc am_GG md_85 := ⟨am_tin 320 rfl rfl, am_tin 2 (by decide +kernel) rfl, by decide +kernel, ⟨by decide +kernel, by decide +kernel⟩, by decide +kernel⟩
set_option maxRecDepth 100000 in
theorem mc_86 : am_mc am_GG md_86 := ⟨am_tin 303 rfl rfl, am_tin 2 (by decide +kernel) rfl, by decide +kernel, ⟨by decide +kernel, by decide +kernel⟩, by decide +kernel⟩
set_option maxRecDepth 100000 in
theorem mc_87 : am_mc am_GG md_87 := ⟨am_tin 349 rfl rfl, am_tin 2 (by decide +kernel) rfl, by decide +kernel, ⟨by decide +kernel, by decide +kernel⟩, by decide +kernel⟩
set_option maxRecDepth 100000 in
theorem mc_88 : am_mc am_GG md_88 := ⟨am_tin 390 rfl rfl, am_tin 2 (by decide +kernel) rfl, by decide +kernel, ⟨by decide +kernel, by decide +kernel⟩, by decide +kernel⟩
set_option maxRecDepth 100000 in
theorem mc_89 : am_mc am_GG md_89 := ⟨am_tin 368 rfl rfl, am_tin 2 (by decide +kernel) rfl, by decide +kernel, ⟨by decide +kernel, by decide +kernel⟩, by decide +kernel⟩
set_option maxRecDepth 100000 in
theorem mc_90 : am_mc am_GG md_90 := ⟨am_tin 577 rfl rfl, am_tin 2 (by decide +kernel) rfl, by decide +kernel, ⟨by decide +kernel, by decide +kernel⟩, by decide +kernel⟩
set_option maxRecDepth 100000 in
theorem mc_91 : am_mc am_GG md_91 := ⟨am_tin 379 rfl rfl, am_tin 2 (by decide +kernel) rfl, by decide +kernel, ⟨by decide +kernel, by decide +kernel⟩, by decide +kernel⟩
set_option maxRecDepth 100000 in
theorem mc_92 : am_mc am_GG md_92 := ⟨am_tin 44 rfl rfl, am_tin 3 (by decide +kernel) rfl, by decide +kernel, ⟨by decide +kernel, by decide +kernel⟩, by decide +kernel⟩
set_option maxRecDepth 100000 in
theorem mc_93 : am_mc am_GG md_93 := ⟨am_tin 383 rfl rfl, am_tin 3 (by decide +kernel) rfl, by decide +kernel, ⟨by decide +kernel, by decide +kernel⟩, by decide +kernel⟩
set_option maxRecDepth 100000 in
theorem mc_94 : am_mc am_GG md_94 := ⟨am_tin 517 rfl rfl, am_tin 3 (by decide +kernel) rfl, by decide +kernel, ⟨by decide +kernel, by decide +kernel⟩, by decide +kernel⟩
set_option maxRecDepth 100000 in
theorem mc_95 : am_mc am_GG md_95 := ⟨am_tin 671 rfl rfl, am_tin 3 (by decide +kernel) rfl, by decide +kernel, ⟨by decide +kernel, by decide +kernel⟩, by decide +kernel⟩
set_option maxRecDepth 100000 in
theorem mc_96 : am_mc am_GG md_96 := ⟨am_tin 341 rfl rfl, am_tin 3 (by decide +kernel) rfl, by decide +kernel, ⟨by decide +kernel, by decide +kernel⟩, by decide +kernel⟩
set_option maxRecDepth 100000 in
theorem mc_97 : am_mc am_GG md_97 := ⟨am_tin 666 rfl rfl, am_tin 3 (by decide +kernel) rfl, by decide +kernel, ⟨by decide +kernel, by decide +kernel⟩, by decide +kernel⟩
set_option maxRecDepth 100000 in
theorem mc_98 : am_mc am_GG md_98 := ⟨am_tin 332 rfl rfl, am_tin 3 (by decide +kernel) rfl, by decide +kernel, ⟨by decide +kernel, by decide +kernel⟩, by decide +kernel⟩
set_option maxRecDepth 100000 in
theorem mc_99 : am_mc am_GG md_99 := ⟨am_tin 337 rfl rfl, am_tin 3 (by decide +kernel) rfl, by decide +kernel, ⟨by decide +kernel, by decide +kernel⟩, by decide +kernel⟩
set_option maxRecDepth 100000 in
theorem mc_100 : am_mc am_GG md_100 := ⟨am_tin 404 rfl rfl, am_tin 3 (by decide +kernel) rfl, by decide +kernel, ⟨by decide +kernel, by decide +kernel⟩, by decide +kernel⟩
set_option maxRecDepth 100000 in
theorem mc_101 : am_mc am_GG md_101 := ⟨am_tin 353 rfl rfl, am_tin 3 (by decide +kernel) rfl, by decide +kernel, ⟨by decide +kernel, by decide +kernel⟩, by decide +kernel⟩
set_option maxRecDepth 100000 in
theorem mc_102 : am_mc am_GG md_102 := ⟨am_tin 357 rfl rfl, am_tin 3 (by decide +kernel) rfl, by decide +kernel, ⟨by decide +kernel, by decide +kernel⟩, by decide +kernel⟩
set_option maxRecDepth 100000 in
theorem mc_103 : am_mc am_GG md_103 := ⟨am_tin 361 rfl rfl, am_tin 3 (by decide +kernel) rfl, by decide +kernel, ⟨by decide +kernel, by decide +kernel⟩, by decide +kernel⟩
set_option maxRecDepth 100000 in
theorem mc_104 : am_mc am_GG md_104 := ⟨am_tin 393 rfl rfl, am_tin 3 (by decide +kernel) rfl, by decide +kernel, ⟨by decide +kernel, by decide +kernel⟩, by decide +kernel⟩
set_option maxRecDepth 100000 in
theorem mc_105 : am_mc am_GG md_105 := ⟨am_tin 397 rfl rfl, am_tin 3 (by decide +kernel) rfl, by decide +kernel, ⟨by decide +kernel, by decide +kernel⟩, by decide +kernel⟩
set_option maxRecDepth 100000 in
theorem mc_106 : am_mc am_GG md_106 := ⟨am_tin 345 rfl rfl, am_tin 3 (by decide +kernel) rfl, by decide +kernel, ⟨by decide +kernel, by decide +kernel⟩, by decide +kernel⟩
set_option maxRecDepth 100000 in
theorem mc_107 : am_mc am_GG md_107 := ⟨am_tin 529 rfl rfl, am_tin 3 (by decide +kernel) rfl, by decide +kernel, ⟨by decide +kernel, by decide +kernel⟩, by decide +kernel⟩
set_option maxRecDepth 100000 in
theorem mc_108 : am_mc am_GG md_108 := ⟨am_tin 18 rfl rfl, am_tin 1 (by decide +kernel) rfl, by decide +kernel, ⟨by decide +kernel, by decide +kernel⟩, by decide +kernel⟩
set_option maxRecDepth 100000 in
theorem mc_109 : am_mc am_GG md_109 := ⟨am_tin 287 rfl rfl, am_tin 1 (by decide +kernel) rfl, by decide +kernel, ⟨by decide +kernel, by decide +kernel⟩, by decide +kernel⟩
set_option maxRecDepth 100000 in
theorem mc_110 : am_mc am_GG md_110 := ⟨am_tin 312 rfl rfl, am_tin 1 (by decide +kernel) rfl, by decide +kernel, ⟨by decide +kernel, by decide +kernel⟩, by decide +kernel⟩
set_option maxRecDepth 100000 in
theorem mc_111 : am_mc am_GG md_111 := ⟨am_tin 316 rfl rfl, am_tin 1 (by decide +kernel) rfl, by decide +kernel, ⟨by decide +kernel, by decide +kernel⟩, by decide +kernel⟩
set_option maxRecDepth 100000 in
theorem mc_112 : am_mc am_GG md_112 := ⟨am_tin 324 rfl rfl, am_tin 1 (by decide +kernel) rfl, by decide +kernel, ⟨by decide +kernel, by decide +kernel⟩, by decide +kernel⟩
set_option maxRecDepth 100000 in
theorem mc_113 : am_mc am_GG md_113 := ⟨am_tin 662 rfl rfl, am_tin 1 (by decide +kernel) rfl, by decide +kernel, ⟨by decide +kernel, by decide +kernel⟩, by decide +kernel⟩
set_option maxRecDepth 100000 in
theorem mc_114 : am_mc am_GG md_114 := ⟨am_tin 676 rfl rfl, am_tin 1 (by decide +kernel) rfl, by decide +kernel, ⟨by decide +kernel, by decide +kernel⟩, by decide +kernel⟩
set_option maxRecDepth 100000 in
theorem mc_115 : am_mc am_GG md_115 := ⟨am_tin 680 rfl rfl, am_tin 1 (by decide +kernel) rfl, by decide +kernel, ⟨by decide +kernel, by decide +kernel⟩, by decide +kernel⟩
set_option maxRecDepth 100000 in
theorem mc_116 : am_mc am_GG md_116 := ⟨am_tin 684 rfl rfl, am_tin 1 (by decide +kernel) rfl, by decide +kernel, ⟨by decide +kernel, by decide +kernel⟩, by decide +kernel⟩
set_option maxRecDepth 100000 in
theorem mc_117 : am_mc am_GG md_117 := ⟨am_tin 700 rfl rfl, am_tin 1 (by decide +kernel) rfl, by decide +kernel, ⟨by decide +kernel, by decide +kernel⟩, by decide +kernel⟩
set_option maxRecDepth 100000 in
theorem mc_118 : am_mc am_GG md_118 := ⟨am_tin 704 rfl rfl, am_tin 1 (by decide +kernel) rfl, by decide +kernel, ⟨by decide +kernel, by decide +kernel⟩, by decide +kernel⟩
set_option maxRecDepth 100000 in
theorem mc_119 : am_mc am_GG md_119 := ⟨am_tin 710 rfl rfl, am_tin 1 (by decide +kernel) rfl, by decide +kernel, ⟨by decide +kernel, by decide +kernel⟩, by decide +kernel⟩
set_option maxRecDepth 100000 in
theorem mc_120 : am_mc am_GG md_120 := ⟨am_tin 714 rfl rfl, am_tin 1 (by decide +kernel) rfl, by decide +kernel, ⟨by decide +kernel, by decide +kernel⟩, by decide +kernel⟩
set_option maxRecDepth 100000 in
theorem mc_121 : am_mc am_GG md_121 := ⟨am_tin 718 rfl rfl, am_tin 1 (by decide +kernel) rfl, by decide +kernel, ⟨by decide +kernel, by decide +kernel⟩, by decide +kernel⟩
set_option maxRecDepth 100000 in
theorem mc_122 : am_mc am_GG md_122 := ⟨am_tin 738 rfl rfl, am_tin 1 (by decide +kernel) rfl, by decide +kernel, ⟨by decide +kernel, by decide +kernel⟩, by decide +kernel⟩
set_option maxRecDepth 100000 in
theorem mc_123 : am_mc am_GG md_123 := ⟨am_tin 744 rfl rfl, am_tin 1 (by decide +kernel) rfl, by decide +kernel, ⟨by decide +kernel, by decide +kernel⟩, by decide +kernel⟩
set_option maxRecDepth 100000 in
theorem mc_124 : am_mc am_GG md_124 := ⟨am_tin 748 rfl rfl, am_tin 1 (by decide +kernel) rfl, by decide +kernel, ⟨by decide +kernel, by decide +kernel⟩, by decide +kernel⟩
set_option maxRecDepth 100000 in
theorem mc_125 : am_mc am_GG md_125 := ⟨am_tin 774 rfl rfl, am_tin 1 (by decide +kernel) rfl, by decide +kernel, ⟨by decide +kernel, by decide +kernel⟩, by decide +kernel⟩
set_option maxRecDepth 100000 in
theorem mc_126 : am_mc am_GG md_126 := ⟨am_tin 328 rfl rfl, am_tin 1 (by decide +kernel) rfl, by decide +kernel, ⟨by decide +kernel, by decide +kernel⟩, by decide +kernel⟩
set_option maxRecDepth 100000 in
theorem mc_127 : am_mc am_GG md_127 := ⟨am_tin 557 rfl rfl, am_tin 1 (by decide +kernel) rfl, by decide +kernel, ⟨by decide +kernel, by decide +kernel⟩, by decide +kernel⟩
set_option maxRecDepth 100000 in
theorem mc_128 : am_mc am_GG md_128 := ⟨am_tin 726 rfl rfl, am_tin 1 (by decide +kernel) rfl, by decide +kernel, ⟨by decide +kernel, by decide +kernel⟩, by decide +kernel⟩
set_option maxRecDepth 100000 in
theorem mc_129 : am_mc am_GG md_129 := ⟨am_tin 722 rfl rfl, am_tin 1 (by decide +kernel) rfl, by decide +kernel, ⟨by decide +kernel, by decide +kernel⟩, by decide +kernel⟩
set_option maxRecDepth 100000 in
theorem mc_130 : am_mc am_GG md_130 := ⟨am_tin 787 rfl rfl, am_tin 10 (by decide +kernel) rfl, by decide +kernel, ⟨by decide +kernel, by decide +kernel⟩, by decide +kernel⟩
set_option maxRecDepth 100000 in
theorem mc_131 : am_mc am_GG md_131 := ⟨am_tin 907 rfl rfl, am_tin 10 (by decide +kernel) rfl, by decide +kernel, ⟨by decide +kernel, by decide +kernel⟩, by decide +kernel⟩
set_option maxRecDepth 100000 in
theorem mc_132 : am_mc am_GG md_132 := ⟨am_tin 904 rfl rfl, am_tin 10 (by decide +kernel) rfl, by decide +kernel, ⟨by decide +kernel, by decide +kernel⟩, by decide +kernel⟩
set_option maxRecDepth 100000 in
theorem mc_133 : am_mc am_GG md_133 := ⟨am_tin 911 rfl rfl, am_tin 10 (by decide +kernel) rfl, by decide +kernel, ⟨by decide +kernel, by decide +kernel⟩, by decide +kernel⟩
set_option maxRecDepth 100000 in
theorem mc_134 : am_mc am_GG md_134 := ⟨am_tin 915 rfl rfl, am_tin 10 (by decide +kernel) rfl, by decide +kernel, ⟨by decide +kernel, by decide +kernel⟩, by decide +kernel⟩
set_option maxRecDepth 100000 in
theorem mc_135 : am_mc am_GG md_135 := ⟨am_tin 919 rfl rfl, am_tin 10 (by decide +kernel) rfl, by decide +kernel, ⟨by decide +kernel, by decide +kernel⟩, by decide +kernel⟩
set_option maxRecDepth 100000 in
theorem mc_136 : am_mc am_GG md_136 := ⟨am_tin 927 rfl rfl, am_tin 10 (by decide +kernel) rfl, by decide +kernel, ⟨by decide +kernel, by decide +kernel⟩, by decide +kernel⟩
set_option maxRecDepth 100000 in
theorem mc_137 : am_mc am_GG md_137 := ⟨am_tin 953 rfl rfl, am_tin 10 (by decide +kernel) rfl, by decide +kernel, ⟨by decide +kernel, by decide +kernel⟩, by decide +kernel⟩
set_option maxRecDepth 100000 in
theorem mc_138 : am_mc am_GG md_138 := ⟨am_tin 950 rfl rfl, am_tin 10 (by decide +kernel) rfl, by decide +kernel, ⟨by decide +kernel, by decide +kernel⟩, by decide +kernel⟩
set_option maxRecDepth 100000 in
theorem mc_139 : am_mc am_GG md_139 := ⟨am_tin 957 rfl rfl, am_tin 10 (by decide +kernel) rfl, by decide +kernel, ⟨by decide +kernel, by decide +kernel⟩, by decide +kernel⟩
set_option maxRecDepth 100000 in
theorem mc_140 : am_mc am_GG md_140 := ⟨am_tin 939 rfl rfl, am_tin 10 (by decide +kernel) rfl, by decide +kernel, ⟨by decide +kernel, by decide +kernel⟩, by decide +kernel⟩
set_option maxRecDepth 100000 in
theorem mc_141 : am_mc am_GG md_141 := ⟨am_tin 931 rfl rfl, am_tin 10 (by decide +kernel) rfl, by decide +kernel, ⟨by decide +kernel, by decide +kernel⟩, by decide +kernel⟩
set_option maxRecDepth 100000 in
theorem mc_142 : am_mc am_GG md_142 := ⟨am_tin 935 rfl rfl, am_tin 10 (by decide +kernel) rfl, by decide +kernel, ⟨by decide +kernel, by decide +kernel⟩, by decide +kernel⟩
set_option maxRecDepth 100000 in
theorem mc_143 : am_mc am_GG md_143 := ⟨am_tin 943 rfl rfl, am_tin 10 (by decide +kernel) rfl, by decide +kernel, ⟨by decide +kernel, by decide +kernel⟩, by decide +kernel⟩
set_option maxRecDepth 100000 in
theorem mc_144 : am_mc am_GG md_144 := ⟨am_tin 947 rfl rfl, am_tin 10 (by decide +kernel) rfl, by decide +kernel, ⟨by decide +kernel, by decide +kernel⟩, by decide +kernel⟩
set_option maxRecDepth 100000 in
theorem mc_145 : am_mc am_GG md_145 := ⟨am_tin 983 rfl rfl, am_tin 10 (by decide +kernel) rfl, by decide +kernel, ⟨by decide +kernel, by decide +kernel⟩, by decide +kernel⟩
set_option maxRecDepth 100000 in
theorem mc_146 : am_mc am_GG md_146 := ⟨am_tin 999 rfl rfl, am_tin 10 (by decide +kernel) rfl, by decide +kernel, ⟨by decide +kernel, by decide +kernel⟩, by decide +kernel⟩
set_option maxRecDepth 100000 in
theorem mc_147 : am_mc am_GG md_147 := ⟨am_tin 1015 rfl rfl, am_tin 10 (by decide +kernel) rfl, by decide +kernel, ⟨by decide +kernel, by decide +kernel⟩, by decide +kernel⟩
set_option maxRecDepth 100000 in
theorem mc_148 : am_mc am_GG md_148 := ⟨am_tin 1027 rfl rfl, am_tin 10 (by decide +kernel) rfl, by decide +kernel, ⟨by decide +kernel, by decide +kernel⟩, by decide +kernel⟩
set_option maxRecDepth 100000 in
theorem mc_149 : am_mc am_GG md_149 := ⟨am_tin 995 rfl rfl, am_tin 10 (by decide +kernel) rfl, by decide +kernel, ⟨by decide +kernel, by decide +kernel⟩, by decide +kernel⟩
set_option maxRecDepth 100000 in
theorem mc_150 : am_mc am_GG md_150 := ⟨am_tin 1003 rfl rfl, am_tin 10 (by decide +kernel) rfl, by decide +kernel, ⟨by decide +kernel, by decide +kernel⟩, by decide +kernel⟩
set_option maxRecDepth 100000 in
theorem mc_151 : am_mc am_GG md_151 := ⟨am_tin 979 rfl rfl, am_tin 10 (by decide +kernel) rfl, by decide +kernel, ⟨by decide +kernel, by decide +kernel⟩, by decide +kernel⟩
set_option maxRecDepth 100000 in
theorem mc_152 : am_mc am_GG md_152 := ⟨am_tin 1023 rfl rfl, am_tin 10 (by decide +kernel) rfl, by decide +kernel, ⟨by decide +kernel, by decide +kernel⟩, by decide +kernel⟩
set_option maxRecDepth 100000 in
theorem mc_153 : am_mc am_GG md_153 := ⟨am_tin 975 rfl rfl, am_tin 10 (by decide +kernel) rfl, by decide +kernel, ⟨by decide +kernel, by decide +kernel⟩, by decide +kernel⟩
set_option maxRecDepth 100000 in
theorem mc_154 : am_mc am_GG md_154 := ⟨am_tin 987 rfl rfl, am_tin 10 (by decide +kernel) rfl, by decide +kernel, ⟨by decide +kernel, by decide +kernel⟩, by decide +kernel⟩
set_option maxRecDepth 100000 in
theorem mc_155 : am_mc am_GG md_155 := ⟨am_tin 991 rfl rfl, am_tin 10 (by decide +kernel) rfl, by decide +kernel, ⟨by decide +kernel, by decide +kernel⟩, by decide +kernel⟩
set_option maxRecDepth 100000 in
theorem mc_156 : am_mc am_GG md_156 := ⟨am_tin 1007 rfl rfl, am_tin 10 (by decide +kernel) rfl, by decide +kernel, ⟨by decide +kernel, by decide +kernel⟩, by decide +kernel⟩
set_option maxRecDepth 100000 in
theorem mc_157 : am_mc am_GG md_157 := ⟨am_tin 1011 rfl rfl, am_tin 10 (by decide +kernel) rfl, by decide +kernel, ⟨by decide +kernel, by decide +kernel⟩, by decide +kernel⟩
set_option maxRecDepth 100000 in
theorem mc_158 : am_mc am_GG md_158 := ⟨am_tin 1019 rfl rfl, am_tin 10 (by decide +kernel) rfl, by decide +kernel, ⟨by decide +kernel, by decide +kernel⟩, by decide +kernel⟩
set_option maxRecDepth 100000 in
theorem mc_159 : am_mc am_GG md_159 := ⟨am_tin 1031 rfl rfl, am_tin 10 (by decide +kernel) rfl, by decide +kernel, ⟨by decide +kernel, by decide +kernel⟩, by decide +kernel⟩
set_option maxRecDepth 100000 in
theorem mc_160 : am_mc am_GG md_160 := ⟨am_tin 1035 rfl rfl, am_tin 10 (by decide +kernel) rfl, by decide +kernel, ⟨by decide +kernel, by decide +kernel⟩, by decide +kernel⟩
set_option maxRecDepth 100000 in
theorem mc_161 : am_mc am_GG md_161 := ⟨am_tin 1039 rfl rfl, am_tin 10 (by decide +kernel) rfl, by decide +kernel, ⟨by decide +kernel, by decide +kernel⟩, by decide +kernel⟩
set_option maxRecDepth 100000 in
theorem mc_162 : am_mc am_GG md_162 := ⟨am_tin 1043 rfl rfl, am_tin 10 (by decide +kernel) rfl, by decide +kernel, ⟨by decide +kernel, by decide +kernel⟩, by decide +kernel⟩
set_option maxRecDepth 100000 in
theorem mc_163 : am_mc am_GG md_163 := ⟨am_tin 1047 rfl rfl, am_tin 10 (by decide +kernel) rfl, by decide +kernel, ⟨by decide +kernel, by decide +kernel⟩, by decide +kernel⟩
set_option maxRecDepth 100000 in
theorem mc_164 : am_mc am_GG md_164 := ⟨am_tin 1051 rfl rfl, am_tin 10 (by decide +kernel) rfl, by decide +kernel, ⟨by decide +kernel, by decide +kernel⟩, by decide +kernel⟩
set_option maxRecDepth 100000 in
theorem mc_165 : am_mc am_GG md_165 := ⟨am_tin 1071 rfl rfl, am_tin 10 (by decide +kernel) rfl, by decide +kernel, ⟨by decide +kernel, by decide +kernel⟩, by decide +kernel⟩
set_option maxRecDepth 100000 in
theorem mc_166 : am_mc am_GG md_166 := ⟨am_tin 1067 rfl rfl, am_tin 10 (by decide +kernel) rfl, by decide +kernel, ⟨by decide +kernel, by decide +kernel⟩, by decide +kernel⟩
set_option maxRecDepth 100000 in
theorem mc_167 : am_mc am_GG md_167 := ⟨am_tin 1075 rfl rfl, am_tin 10 (by decide +kernel) rfl, by decide +kernel, ⟨by decide +kernel, by decide +kernel⟩, by decide +kernel⟩
set_option maxRecDepth 100000 in
theorem mc_168 : am_mc am_GG md_168 := ⟨am_tin 1063 rfl rfl, am_tin 10 (by decide +kernel) rfl, by decide +kernel, ⟨by decide +kernel, by decide +kernel⟩, by decide +kernel⟩
set_option maxRecDepth 100000 in
theorem mc_169 : am_mc am_GG md_169 := ⟨am_tin 1055 rfl rfl, am_tin 10 (by decide +kernel) rfl, by decide +kernel, ⟨by decide +kernel, by decide +kernel⟩, by decide +kernel⟩
set_option maxRecDepth 100000 in
theorem mc_170 : am_mc am_GG md_170 := ⟨am_tin 1083 rfl rfl, am_tin 10 (by decide +kernel) rfl, by decide +kernel, ⟨by decide +kernel, by decide +kernel⟩, by decide +kernel⟩
set_option maxRecDepth 100000 in
theorem mc_171 : am_mc am_GG md_171 := ⟨am_tin 1167 rfl rfl, am_tin 10 (by decide +kernel) rfl, by decide +kernel, ⟨by decide +kernel, by decide +kernel⟩, by decide +kernel⟩
set_option maxRecDepth 100000 in
theorem mc_172 : am_mc am_GG md_172 := ⟨am_tin 1091 rfl rfl, am_tin 10 (by decide +kernel) rfl, by decide +kernel, ⟨by decide +kernel, by decide +kernel⟩, by decide +kernel⟩
set_option maxRecDepth 100000 in
theorem mc_173 : am_mc am_GG md_173 := ⟨am_tin 1079 rfl rfl, am_tin 10 (by decide +kernel) rfl, by decide +kernel, ⟨by decide +kernel, by decide +kernel⟩, by decide +kernel⟩
set_option maxRecDepth 100000 in
theorem mc_174 : am_mc am_GG md_174 := ⟨am_tin 1099 rfl rfl, am_tin 10 (by decide +kernel) rfl, by decide +kernel, ⟨by decide +kernel, by decide +kernel⟩, by decide +kernel⟩
set_option maxRecDepth 100000 in
theorem mc_175 : am_mc am_GG md_175 := ⟨am_tin 1087 rfl rfl, am_tin 10 (by decide +kernel) rfl, by decide +kernel, ⟨by decide +kernel, by decide +kernel⟩, by decide +kernel⟩
set_option maxRecDepth 100000 in
theorem mc_176 : am_mc am_GG md_176 := ⟨am_tin 1059 rfl rfl, am_tin 10 (by decide +kernel) rfl, by decide +kernel, ⟨by decide +kernel, by decide +kernel⟩, by decide +kernel⟩
set_option maxRecDepth 100000 in
theorem mc_177 : am_mc am_GG md_177 := ⟨am_tin 1095 rfl rfl, am_tin 10 (by decide +kernel) rfl, by decide +kernel, ⟨by decide +kernel, by decide +kernel⟩, by decide +kernel⟩
set_option maxRecDepth 100000 in
theorem mc_178 : am_mc am_GG md_178 := ⟨am_tin 1103 rfl rfl, am_tin 10 (by decide +kernel) rfl, by decide +kernel, ⟨by decide +kernel, by decide +kernel⟩, by decide +kernel⟩
set_option maxRecDepth 100000 in
theorem mc_179 : am_mc am_GG md_179 := ⟨am_tin 1159 rfl rfl, am_tin 10 (by decide +kernel) rfl, by decide +kernel, ⟨by decide +kernel, by decide +kernel⟩, by decide +kernel⟩
set_option maxRecDepth 100000 in
theorem mc_180 : am_mc am_GG md_180 := ⟨am_tin 1163 rfl rfl, am_tin 10 (by decide +kernel) rfl, by decide +kernel, ⟨by decide +kernel, by decide +kernel⟩, by decide +kernel⟩
set_option maxRecDepth 100000 in
theorem mc_181 : am_mc am_GG md_181 := ⟨am_tin 1155 rfl rfl, am_tin 10 (by decide +kernel) rfl, by decide +kernel, ⟨by decide +kernel, by decide +kernel⟩, by decide +kernel⟩
set_option maxRecDepth 100000 in
theorem mc_182 : am_mc am_GG md_182 := ⟨am_tin 1151 rfl rfl, am_tin 10 (by decide +kernel) rfl, by decide +kernel, ⟨by decide +kernel, by decide +kernel⟩, by decide +kernel⟩
set_option maxRecDepth 100000 in
theorem mc_183 : am_mc am_GG md_183 := ⟨am_tin 1147 rfl rfl, am_tin 10 (by decide +kernel) rfl, by decide +kernel, ⟨by decide +kernel, by decide +kernel⟩, by decide +kernel⟩
set_option maxRecDepth 100000 in
theorem mc_184 : am_mc am_GG md_184 := ⟨am_tin 1175 rfl rfl, am_tin 10 (by decide +kernel) rfl, by decide +kernel, ⟨by decide +kernel, by decide +kernel⟩, by decide +kernel⟩
set_option maxRecDepth 100000 in
theorem mc_185 : am_mc am_GG md_185 := ⟨am_tin 923 rfl rfl, am_tin 10 (by decide +kernel) rfl, by decide +kernel, ⟨by decide +kernel, by decide +kernel⟩, by decide +kernel⟩
set_option maxRecDepth 100000 in
theorem mc_186 : am_mc am_GG md_186 := ⟨am_tin 1107 rfl rfl, am_tin 10 (by decide +kernel) rfl, by decide +kernel, ⟨by decide +kernel, by decide +kernel⟩, by decide +kernel⟩
set_option maxRecDepth 100000 in
theorem mc_187 : am_mc am_GG md_187 := ⟨am_tin 1111 rfl rfl, am_tin 10 (by decide +kernel) rfl, by decide +kernel, ⟨by decide +kernel, by decide +kernel⟩, by decide +kernel⟩
set_option maxRecDepth 100000 in
theorem mc_188 : am_mc am_GG md_188 := ⟨am_tin 1115 rfl rfl, am_tin 10 (by decide +kernel) rfl, by decide +kernel, ⟨by decide +kernel, by decide +kernel⟩, by decide +kernel⟩
set_option maxRecDepth 100000 in
theorem mc_189 : am_mc am_GG md_189 := ⟨am_tin 1119 rfl rfl, am_tin 10 (by decide +kernel) rfl, by decide +kernel, ⟨by decide +kernel, by decide +kernel⟩, by decide +kernel⟩
set_option maxRecDepth 100000 in
theorem mc_190 : am_mc am_GG md_190 := ⟨am_tin 1123 rfl rfl, am_tin 10 (by decide +kernel) rfl, by decide +kernel, ⟨by decide +kernel, by decide +kernel⟩, by decide +kernel⟩
set_option maxRecDepth 100000 in
theorem mc_191 : am_mc am_GG md_191 := ⟨am_tin 1127 rfl rfl, am_tin 10 (by decide +kernel) rfl, by decide +kernel, ⟨by decide +kernel, by decide +kernel⟩, by decide +kernel⟩
set_option maxRecDepth 100000 in
theorem mc_192 : am_mc am_GG md_192 := ⟨am_tin 1131 rfl rfl, am_tin 10 (by decide +kernel) rfl, by decide +kernel, ⟨by decide +kernel, by decide +kernel⟩, by decide +kernel⟩
set_option maxRecDepth 100000 in
theorem mc_193 : am_mc am_GG md_193 := ⟨am_tin 1135 rfl rfl, am_tin 10 (by decide +kernel) rfl, by decide +kernel, ⟨by decide +kernel, by decide +kernel⟩, by decide +kernel⟩
set_option maxRecDepth 100000 in
theorem mc_194 : am_mc am_GG md_194 := ⟨am_tin 1139 rfl rfl, am_tin 10 (by decide +kernel) rfl, by decide +kernel, ⟨by decide +kernel, by decide +kernel⟩, by decide +kernel⟩
set_option maxRecDepth 100000 in
theorem mc_195 : am_mc am_GG md_195 := ⟨am_tin 1143 rfl rfl, am_tin 10 (by decide +kernel) rfl, by decide +kernel, ⟨by decide +kernel, by decide +kernel⟩, by decide +kernel⟩
set_option maxRecDepth 100000 in
theorem mc_196 : am_mc am_GG md_196 := ⟨am_tin 1171 rfl rfl, am_tin 10 (by decide +kernel) rfl, by decide +kernel, ⟨by decide +kernel, by decide +kernel⟩, by decide +kernel⟩
set_option maxRecDepth 100000 in
theorem mc_197 : am_mc am_GG md_197 := ⟨am_tin 1179 rfl rfl, am_tin 10 (by decide +kernel) rfl, by decide +kernel, ⟨by decide +kernel, by decide +kernel⟩, by decide +kernel⟩
set_option maxRecDepth 100000 in
theorem mc_198 : am_mc am_GG md_198 := ⟨am_tin 1186 rfl rfl, am_tin 10 (by decide +kernel) rfl, by decide +kernel, ⟨by decide +kernel, by decide +kernel⟩, by decide +kernel⟩
set_option maxRecDepth 100000 in
theorem mc_199 : am_mc am_GG md_199 := ⟨am_tin 1190 rfl rfl, am_tin 10 (by decide +kernel) rfl, by decide +kernel, ⟨by decide +kernel, by decide +kernel⟩, by decide +kernel⟩
set_option maxRecDepth 100000 in
theorem mc_200 : am_mc am_GG md_200 := ⟨am_tin 1183 rfl rfl, am_tin 10 (by decide +kernel) rfl, by decide +kernel, ⟨by decide +kernel, by decide +kernel⟩, by decide +kernel⟩
set_option maxRecDepth 100000 in
theorem mc_201 : am_mc am_GG md_201 := ⟨am_tin 1194 rfl rfl, am_tin 10 (by decide +kernel) rfl, by decide +kernel, ⟨by decide +kernel, by decide +kernel⟩, by decide +kernel⟩
theorem uw_0 : ∀ w ∈ u_ws "BindingServer" fd_0 9, w ∈ am_GG := by
  intro w hw
  obtain ⟨k, hk, rfl⟩ := List.mem_map.mp hw
  have hk := List.mem_range.mp hk
  match k, hk with
  | 0, _ => exact am_tin 265 (by decide +kernel) (by decide +kernel)
  | 1, _ => exact am_tin 267 (by decide +kernel) (by decide +kernel)
  | 2, _ => exact am_tin 269 (by decide +kernel) (by decide +kernel)
  | 3, _ => exact am_tin 271 (by decide +kernel) (by decide +kernel)
  | 4, _ => exact am_tin 273 (by decide +kernel) (by decide +kernel)
  | 5, _ => exact am_tin 275 (by decide +kernel) (by decide +kernel)
  | 6, _ => exact am_tin 277 (by decide +kernel) (by decide +kernel)
  | 7, _ => exact am_tin 279 (by decide +kernel) (by decide +kernel)
  | 8, _ => exact am_tin 281 (by decide +kernel) (by decide +kernel)
  | k + 9, hk => exact absurd hk (by omega)
theorem cz_0 (xs : Option (List Int32)) : am_co (am_CX xs) am_GG 0 ("BindingServer", fd_0, 9) := ⟨uw_0, (by decide +kernel : ∀ k, k < 9 → parseFieldDescriptor (fd_0 k).2.2.1 = some (am_ty 0 k)), (by decide +kernel : ∀ a, a < 9 → ∀ b, b < 9 → a ≠ b → (fd_0 a).2.1 ≠ (fd_0 b).2.1), am_tin 15 (by decide +kernel) rfl, am_tin 1 (by decide +kernel) rfl, (by decide +kernel : ∀ k, k < 9 → (fd_0 k).1 = "BindingServer")⟩
theorem uw_1 : ∀ w ∈ u_ws "BindingServer$Text" fd_1 2, w ∈ am_GG := by
  intro w hw
  obtain ⟨k, hk, rfl⟩ := List.mem_map.mp hw
  have hk := List.mem_range.mp hk
  match k, hk with
  | 0, _ => exact am_tin 34 (by decide +kernel) (by decide +kernel)
  | 1, _ => exact am_tin 36 (by decide +kernel) (by decide +kernel)
  | k + 2, hk => exact absurd hk (by omega)
theorem cz_1 (xs : Option (List Int32)) : am_co (am_CX xs) am_GG 1 ("BindingServer$Text", fd_1, 2) := ⟨uw_1, (by decide +kernel : ∀ k, k < 2 → parseFieldDescriptor (fd_1 k).2.2.1 = some (am_ty 1 k)), (by decide +kernel : ∀ a, a < 2 → ∀ b, b < 2 → a ≠ b → (fd_1 a).2.1 ≠ (fd_1 b).2.1), am_tin 23 (by decide +kernel) rfl, am_tin 2 (by decide +kernel) rfl, (by decide +kernel : ∀ k, k < 2 → (fd_1 k).1 = "BindingServer$Text")⟩
theorem uw_2 : ∀ w ∈ u_ws "BindingServer$Tokens" fd_2 8, w ∈ am_GG := by
  intro w hw
  obtain ⟨k, hk, rfl⟩ := List.mem_map.mp hw
  have hk := List.mem_range.mp hk
  match k, hk with
  | 0, _ => exact am_tin 59 (by decide +kernel) (by decide +kernel)
  | 1, _ => exact am_tin 61 (by decide +kernel) (by decide +kernel)
  | 2, _ => exact am_tin 63 (by decide +kernel) (by decide +kernel)
  | 3, _ => exact am_tin 65 (by decide +kernel) (by decide +kernel)
  | 4, _ => exact am_tin 67 (by decide +kernel) (by decide +kernel)
  | 5, _ => exact am_tin 69 (by decide +kernel) (by decide +kernel)
  | 6, _ => exact am_tin 71 (by decide +kernel) (by decide +kernel)
  | 7, _ => exact am_tin 73 (by decide +kernel) (by decide +kernel)
  | k + 8, hk => exact absurd hk (by omega)
theorem cz_2 (xs : Option (List Int32)) : am_co (am_CX xs) am_GG 2 ("BindingServer$Tokens", fd_2, 8) := ⟨uw_2, (by decide +kernel : ∀ k, k < 8 → parseFieldDescriptor (fd_2 k).2.2.1 = some (am_ty 2 k)), (by decide +kernel : ∀ a, a < 8 → ∀ b, b < 8 → a ≠ b → (fd_2 a).2.1 ≠ (fd_2 b).2.1), am_tin 41 (by decide +kernel) rfl, am_tin 3 (by decide +kernel) rfl, (by decide +kernel : ∀ k, k < 8 → (fd_2 k).1 = "BindingServer$Tokens")⟩
theorem uw_3 : ∀ w ∈ u_ws "BindingServer$Extents" fd_3 3, w ∈ am_GG := by
  intro w hw
  obtain ⟨k, hk, rfl⟩ := List.mem_map.mp hw
  have hk := List.mem_range.mp hk
  match k, hk with
  | 0, _ => exact am_tin 87 (by decide +kernel) (by decide +kernel)
  | 1, _ => exact am_tin 89 (by decide +kernel) (by decide +kernel)
  | 2, _ => exact am_tin 91 (by decide +kernel) (by decide +kernel)
  | k + 3, hk => exact absurd hk (by omega)
theorem cz_3 (xs : Option (List Int32)) : am_co (am_CX xs) am_GG 3 ("BindingServer$Extents", fd_3, 3) := ⟨uw_3, (by decide +kernel : ∀ k, k < 3 → parseFieldDescriptor (fd_3 k).2.2.1 = some (am_ty 3 k)), (by decide +kernel : ∀ a, a < 3 → ∀ b, b < 3 → a ≠ b → (fd_3 a).2.1 ≠ (fd_3 b).2.1), am_tin 78 (by decide +kernel) rfl, am_tin 4 (by decide +kernel) rfl, (by decide +kernel : ∀ k, k < 3 → (fd_3 k).1 = "BindingServer$Extents")⟩
theorem uw_4 : ∀ w ∈ u_ws "BindingServer$Scopes" fd_4 4, w ∈ am_GG := by
  intro w hw
  obtain ⟨k, hk, rfl⟩ := List.mem_map.mp hw
  have hk := List.mem_range.mp hk
  match k, hk with
  | 0, _ => exact am_tin 106 (by decide +kernel) (by decide +kernel)
  | 1, _ => exact am_tin 108 (by decide +kernel) (by decide +kernel)
  | 2, _ => exact am_tin 110 (by decide +kernel) (by decide +kernel)
  | 3, _ => exact am_tin 112 (by decide +kernel) (by decide +kernel)
  | k + 4, hk => exact absurd hk (by omega)
theorem cz_4 (xs : Option (List Int32)) : am_co (am_CX xs) am_GG 4 ("BindingServer$Scopes", fd_4, 4) := ⟨uw_4, (by decide +kernel : ∀ k, k < 4 → parseFieldDescriptor (fd_4 k).2.2.1 = some (am_ty 4 k)), (by decide +kernel : ∀ a, a < 4 → ∀ b, b < 4 → a ≠ b → (fd_4 a).2.1 ≠ (fd_4 b).2.1), am_tin 95 (by decide +kernel) rfl, am_tin 5 (by decide +kernel) rfl, (by decide +kernel : ∀ k, k < 4 → (fd_4 k).1 = "BindingServer$Scopes")⟩
theorem uw_5 : ∀ w ∈ u_ws "BindingServer$Occurrences" fd_5 9, w ∈ am_GG := by
  intro w hw
  obtain ⟨k, hk, rfl⟩ := List.mem_map.mp hw
  have hk := List.mem_range.mp hk
  match k, hk with
  | 0, _ => exact am_tin 142 (by decide +kernel) (by decide +kernel)
  | 1, _ => exact am_tin 144 (by decide +kernel) (by decide +kernel)
  | 2, _ => exact am_tin 146 (by decide +kernel) (by decide +kernel)
  | 3, _ => exact am_tin 148 (by decide +kernel) (by decide +kernel)
  | 4, _ => exact am_tin 150 (by decide +kernel) (by decide +kernel)
  | 5, _ => exact am_tin 152 (by decide +kernel) (by decide +kernel)
  | 6, _ => exact am_tin 154 (by decide +kernel) (by decide +kernel)
  | 7, _ => exact am_tin 156 (by decide +kernel) (by decide +kernel)
  | 8, _ => exact am_tin 158 (by decide +kernel) (by decide +kernel)
  | k + 9, hk => exact absurd hk (by omega)
theorem cz_5 (xs : Option (List Int32)) : am_co (am_CX xs) am_GG 5 ("BindingServer$Occurrences", fd_5, 9) := ⟨uw_5, (by decide +kernel : ∀ k, k < 9 → parseFieldDescriptor (fd_5 k).2.2.1 = some (am_ty 5 k)), (by decide +kernel : ∀ a, a < 9 → ∀ b, b < 9 → a ≠ b → (fd_5 a).2.1 ≠ (fd_5 b).2.1), am_tin 116 (by decide +kernel) rfl, am_tin 6 (by decide +kernel) rfl, (by decide +kernel : ∀ k, k < 9 → (fd_5 k).1 = "BindingServer$Occurrences")⟩
theorem uw_6 : ∀ w ∈ u_ws "BindingServer$Parser" fd_6 13, w ∈ am_GG := by
  intro w hw
  obtain ⟨k, hk, rfl⟩ := List.mem_map.mp hw
  have hk := List.mem_range.mp hk
  match k, hk with
  | 0, _ => exact am_tin 183 (by decide +kernel) (by decide +kernel)
  | 1, _ => exact am_tin 185 (by decide +kernel) (by decide +kernel)
  | 2, _ => exact am_tin 187 (by decide +kernel) (by decide +kernel)
  | 3, _ => exact am_tin 189 (by decide +kernel) (by decide +kernel)
  | 4, _ => exact am_tin 191 (by decide +kernel) (by decide +kernel)
  | 5, _ => exact am_tin 193 (by decide +kernel) (by decide +kernel)
  | 6, _ => exact am_tin 195 (by decide +kernel) (by decide +kernel)
  | 7, _ => exact am_tin 197 (by decide +kernel) (by decide +kernel)
  | 8, _ => exact am_tin 199 (by decide +kernel) (by decide +kernel)
  | 9, _ => exact am_tin 201 (by decide +kernel) (by decide +kernel)
  | 10, _ => exact am_tin 203 (by decide +kernel) (by decide +kernel)
  | 11, _ => exact am_tin 205 (by decide +kernel) (by decide +kernel)
  | 12, _ => exact am_tin 207 (by decide +kernel) (by decide +kernel)
  | k + 13, hk => exact absurd hk (by omega)
theorem cz_6 (xs : Option (List Int32)) : am_co (am_CX xs) am_GG 6 ("BindingServer$Parser", fd_6, 13) := ⟨uw_6, (by decide +kernel : ∀ k, k < 13 → parseFieldDescriptor (fd_6 k).2.2.1 = some (am_ty 6 k)), (by decide +kernel : ∀ a, a < 13 → ∀ b, b < 13 → a ≠ b → (fd_6 a).2.1 ≠ (fd_6 b).2.1), am_tin 162 (by decide +kernel) rfl, am_tin 7 (by decide +kernel) rfl, (by decide +kernel : ∀ k, k < 13 → (fd_6 k).1 = "BindingServer$Parser")⟩
theorem uw_7 : ∀ w ∈ u_ws "BindingServer$Binder" fd_7 5, w ∈ am_GG := by
  intro w hw
  obtain ⟨k, hk, rfl⟩ := List.mem_map.mp hw
  have hk := List.mem_range.mp hk
  match k, hk with
  | 0, _ => exact am_tin 223 (by decide +kernel) (by decide +kernel)
  | 1, _ => exact am_tin 225 (by decide +kernel) (by decide +kernel)
  | 2, _ => exact am_tin 227 (by decide +kernel) (by decide +kernel)
  | 3, _ => exact am_tin 229 (by decide +kernel) (by decide +kernel)
  | 4, _ => exact am_tin 231 (by decide +kernel) (by decide +kernel)
  | k + 5, hk => exact absurd hk (by omega)
theorem cz_7 (xs : Option (List Int32)) : am_co (am_CX xs) am_GG 7 ("BindingServer$Binder", fd_7, 5) := ⟨uw_7, (by decide +kernel : ∀ k, k < 5 → parseFieldDescriptor (fd_7 k).2.2.1 = some (am_ty 7 k)), (by decide +kernel : ∀ a, a < 5 → ∀ b, b < 5 → a ≠ b → (fd_7 a).2.1 ≠ (fd_7 b).2.1), am_tin 211 (by decide +kernel) rfl, am_tin 8 (by decide +kernel) rfl, (by decide +kernel : ∀ k, k < 5 → (fd_7 k).1 = "BindingServer$Binder")⟩
theorem uw_8 : ∀ w ∈ u_ws "BindingServer$Snapshot" fd_8 5, w ∈ am_GG := by
  intro w hw
  obtain ⟨k, hk, rfl⟩ := List.mem_map.mp hw
  have hk := List.mem_range.mp hk
  match k, hk with
  | 0, _ => exact am_tin 245 (by decide +kernel) (by decide +kernel)
  | 1, _ => exact am_tin 247 (by decide +kernel) (by decide +kernel)
  | 2, _ => exact am_tin 249 (by decide +kernel) (by decide +kernel)
  | 3, _ => exact am_tin 251 (by decide +kernel) (by decide +kernel)
  | 4, _ => exact am_tin 253 (by decide +kernel) (by decide +kernel)
  | k + 5, hk => exact absurd hk (by omega)
theorem cz_8 (xs : Option (List Int32)) : am_co (am_CX xs) am_GG 8 ("BindingServer$Snapshot", fd_8, 5) := ⟨uw_8, (by decide +kernel : ∀ k, k < 5 → parseFieldDescriptor (fd_8 k).2.2.1 = some (am_ty 8 k)), (by decide +kernel : ∀ a, a < 5 → ∀ b, b < 5 → a ≠ b → (fd_8 a).2.1 ≠ (fd_8 b).2.1), am_tin 235 (by decide +kernel) rfl, am_tin 9 (by decide +kernel) rfl, (by decide +kernel : ∀ k, k < 5 → (fd_8 k).1 = "BindingServer$Snapshot")⟩
theorem uw_9 : ∀ w ∈ u_ws "BindingServerModel" fd_9 37, w ∈ am_GG := by
  intro w hw
  obtain ⟨k, hk, rfl⟩ := List.mem_map.mp hw
  have hk := List.mem_range.mp hk
  match k, hk with
  | 0, _ => exact am_tin 826 (by decide +kernel) (by decide +kernel)
  | 1, _ => exact am_tin 828 (by decide +kernel) (by decide +kernel)
  | 2, _ => exact am_tin 830 (by decide +kernel) (by decide +kernel)
  | 3, _ => exact am_tin 832 (by decide +kernel) (by decide +kernel)
  | 4, _ => exact am_tin 834 (by decide +kernel) (by decide +kernel)
  | 5, _ => exact am_tin 836 (by decide +kernel) (by decide +kernel)
  | 6, _ => exact am_tin 838 (by decide +kernel) (by decide +kernel)
  | 7, _ => exact am_tin 840 (by decide +kernel) (by decide +kernel)
  | 8, _ => exact am_tin 842 (by decide +kernel) (by decide +kernel)
  | 9, _ => exact am_tin 844 (by decide +kernel) (by decide +kernel)
  | 10, _ => exact am_tin 846 (by decide +kernel) (by decide +kernel)
  | 11, _ => exact am_tin 848 (by decide +kernel) (by decide +kernel)
  | 12, _ => exact am_tin 850 (by decide +kernel) (by decide +kernel)
  | 13, _ => exact am_tin 852 (by decide +kernel) (by decide +kernel)
  | 14, _ => exact am_tin 854 (by decide +kernel) (by decide +kernel)
  | 15, _ => exact am_tin 856 (by decide +kernel) (by decide +kernel)
  | 16, _ => exact am_tin 858 (by decide +kernel) (by decide +kernel)
  | 17, _ => exact am_tin 860 (by decide +kernel) (by decide +kernel)
  | 18, _ => exact am_tin 862 (by decide +kernel) (by decide +kernel)
  | 19, _ => exact am_tin 864 (by decide +kernel) (by decide +kernel)
  | 20, _ => exact am_tin 866 (by decide +kernel) (by decide +kernel)
  | 21, _ => exact am_tin 868 (by decide +kernel) (by decide +kernel)
  | 22, _ => exact am_tin 870 (by decide +kernel) (by decide +kernel)
  | 23, _ => exact am_tin 872 (by decide +kernel) (by decide +kernel)
  | 24, _ => exact am_tin 874 (by decide +kernel) (by decide +kernel)
  | 25, _ => exact am_tin 876 (by decide +kernel) (by decide +kernel)
  | 26, _ => exact am_tin 878 (by decide +kernel) (by decide +kernel)
  | 27, _ => exact am_tin 880 (by decide +kernel) (by decide +kernel)
  | 28, _ => exact am_tin 882 (by decide +kernel) (by decide +kernel)
  | 29, _ => exact am_tin 884 (by decide +kernel) (by decide +kernel)
  | 30, _ => exact am_tin 886 (by decide +kernel) (by decide +kernel)
  | 31, _ => exact am_tin 888 (by decide +kernel) (by decide +kernel)
  | 32, _ => exact am_tin 890 (by decide +kernel) (by decide +kernel)
  | 33, _ => exact am_tin 892 (by decide +kernel) (by decide +kernel)
  | 34, _ => exact am_tin 894 (by decide +kernel) (by decide +kernel)
  | 35, _ => exact am_tin 896 (by decide +kernel) (by decide +kernel)
  | 36, _ => exact am_tin 898 (by decide +kernel) (by decide +kernel)
  | k + 37, hk => exact absurd hk (by omega)
theorem cz_9 (xs : Option (List Int32)) : am_co (am_CX xs) am_GG 9 ("BindingServerModel", fd_9, 37) := ⟨uw_9, (by decide +kernel : ∀ k, k < 37 → parseFieldDescriptor (fd_9 k).2.2.1 = some (am_ty 9 k)), (by decide +kernel : ∀ a, a < 37 → ∀ b, b < 37 → a ≠ b → (fd_9 a).2.1 ≠ (fd_9 b).2.1), am_tin 784 (by decide +kernel) rfl, am_tin 10 (by decide +kernel) rfl, (by decide +kernel : ∀ k, k < 37 → (fd_9 k).1 = "BindingServerModel")⟩
set_option maxRecDepth 100000 in
theorem am_gog : am_go am_GG := ⟨fun w hw => good_of_word (List.mem_filter.mp hw).2, am_tin 20 (by decide +kernel) rfl, am_tin 21 (by decide +kernel) rfl, am_tin 399 (by decide +kernel) rfl, am_tin 13 (by decide +kernel) rfl, am_tin 400 (by decide +kernel) rfl, am_tin 307 (by decide +kernel) rfl, am_tin 306 (by decide +kernel) rfl, am_tin 12 (by decide +kernel) rfl, am_tin 76 (by decide +kernel) rfl, am_tin 39 (by decide +kernel) rfl⟩
