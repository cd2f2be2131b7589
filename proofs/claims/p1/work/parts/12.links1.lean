theorem de_42 : ∀ q ∈ tb_42, decode prog_6_method_4_code q.1 = .ok (q.2.1, q.2.2.1) := by decide +kernel
theorem lb_42 : tb_42.all (fun q => am_lb am_C0 tables_1 am_K md_42 q.1 q.2.1 q.2.2.1 q.2.2.2) = true := by decide +kernel
theorem de_43 : ∀ q ∈ tb_43, decode prog_6_method_5_code q.1 = .ok (q.2.1, q.2.2.1) := by decide +kernel
theorem lb_43 : tb_43.all (fun q => am_lb am_C0 tables_1 am_K md_43 q.1 q.2.1 q.2.2.1 q.2.2.2) = true := by decide +kernel
theorem de_44 : ∀ q ∈ tb_44, decode prog_6_method_6_code q.1 = .ok (q.2.1, q.2.2.1) := by decide +kernel
theorem lb_44 : tb_44.all (fun q => am_lb am_C0 tables_1 am_K md_44 q.1 q.2.1 q.2.2.1 q.2.2.2) = true := by decide +kernel
theorem de_45 : ∀ q ∈ tb_45, decode prog_6_method_7_code q.1 = .ok (q.2.1, q.2.2.1) := by decide +kernel
theorem lb_45 : tb_45.all (fun q => am_lb am_C0 tables_1 am_K md_45 q.1 q.2.1 q.2.2.1 q.2.2.2) = true := by decide +kernel
theorem de_46 : ∀ q ∈ tb_46, decode prog_6_method_8_code q.1 = .ok (q.2.1, q.2.2.1) := by decide +kernel
theorem lb_46 : tb_46.all (fun q => am_lb am_C0 tables_1 am_K md_46 q.1 q.2.1 q.2.2.1 q.2.2.2) = true := by decide +kernel
theorem de_47 : ∀ q ∈ tb_47, decode prog_6_method_9_code q.1 = .ok (q.2.1, q.2.2.1) := by decide +kernel
theorem lb_47 : tb_47.all (fun q => am_lb am_C0 tables_1 am_K md_47 q.1 q.2.1 q.2.2.1 q.2.2.2) = true := by decide +kernel
theorem de_48 : ∀ q ∈ tb_48, decode prog_6_method_10_code q.1 = .ok (q.2.1, q.2.2.1) := by decide +kernel
theorem lb_48 : tb_48.all (fun q => am_lb am_C0 tables_1 am_K md_48 q.1 q.2.1 q.2.2.1 q.2.2.2) = true := by decide +kernel
theorem de_49 : ∀ q ∈ tb_49, decode prog_6_method_11_code q.1 = .ok (q.2.1, q.2.2.1) := by decide +kernel
theorem lb_49 : tb_49.all (fun q => am_lb am_C0 tables_1 am_K md_49 q.1 q.2.1 q.2.2.1 q.2.2.2) = true := by decide +kernel
theorem de_50 : ∀ q ∈ tb_50, decode prog_6_method_12_code q.1 = .ok (q.2.1, q.2.2.1) := by decide +kernel
theorem lb_50 : tb_50.all (fun q => am_lb am_C0 tables_1 am_K md_50 q.1 q.2.1 q.2.2.1 q.2.2.2) = true := by decide +kernel
theorem de_51 : ∀ q ∈ tb_51, decode prog_6_method_13_code q.1 = .ok (q.2.1, q.2.2.1) := by decide +kernel
theorem lb_51 : tb_51.all (fun q => am_lb am_C0 tables_1 am_K md_51 q.1 q.2.1 q.2.2.1 q.2.2.2) = true := by decide +kernel
theorem de_52 : ∀ q ∈ tb_52, decode prog_6_method_14_code q.1 = .ok (q.2.1, q.2.2.1) := by decide +kernel
theorem lb_52 : tb_52.all (fun q => am_lb am_C0 tables_1 am_K md_52 q.1 q.2.1 q.2.2.1 q.2.2.2) = true := by decide +kernel
theorem de_53 : ∀ q ∈ tb_53, decode prog_6_method_15_code q.1 = .ok (q.2.1, q.2.2.1) := by decide +kernel
theorem lb_53 : tb_53.all (fun q => am_lb am_C0 tables_1 am_K md_53 q.1 q.2.1 q.2.2.1 q.2.2.2) = true := by decide +kernel
theorem de_54 : ∀ q ∈ tb_54, decode prog_6_method_16_code q.1 = .ok (q.2.1, q.2.2.1) := by decide +kernel
theorem lb_54 : tb_54.all (fun q => am_lb am_C0 tables_1 am_K md_54 q.1 q.2.1 q.2.2.1 q.2.2.2) = true := by decide +kernel
theorem de_55 : ∀ q ∈ tb_55, decode prog_6_method_17_code q.1 = .ok (q.2.1, q.2.2.1) := by decide +kernel
theorem lb_55 : tb_55.all (fun q => am_lb am_C0 tables_1 am_K md_55 q.1 q.2.1 q.2.2.1 q.2.2.2) = true := by decide +kernel
theorem de_56 : ∀ q ∈ tb_56, decode prog_6_method_18_code q.1 = .ok (q.2.1, q.2.2.1) := by decide +kernel
theorem lb_56 : tb_56.all (fun q => am_lb am_C0 tables_1 am_K md_56 q.1 q.2.1 q.2.2.1 q.2.2.2) = true := by decide +kernel
theorem de_57 : ∀ q ∈ tb_57, decode prog_6_method_19_code q.1 = .ok (q.2.1, q.2.2.1) := by decide +kernel
theorem lb_57 : tb_57.all (fun q => am_lb am_C0 tables_1 am_K md_57 q.1 q.2.1 q.2.2.1 q.2.2.2) = true := by decide +kernel
theorem de_58 : ∀ q ∈ tb_58, decode prog_6_method_20_code q.1 = .ok (q.2.1, q.2.2.1) := by decide +kernel
theorem lb_58 : tb_58.all (fun q => am_lb am_C0 tables_1 am_K md_58 q.1 q.2.1 q.2.2.1 q.2.2.2) = true := by decide +kernel
theorem de_59 : ∀ q ∈ tb_59, decode prog_6_method_21_code q.1 = .ok (q.2.1, q.2.2.1) := by decide +kernel
theorem lb_59 : tb_59.all (fun q => am_lb am_C0 tables_1 am_K md_59 q.1 q.2.1 q.2.2.1 q.2.2.2) = true := by decide +kernel
theorem de_60 : ∀ q ∈ tb_60, decode prog_6_method_22_code q.1 = .ok (q.2.1, q.2.2.1) := by decide +kernel
theorem lb_60 : tb_60.all (fun q => am_lb am_C0 tables_1 am_K md_60 q.1 q.2.1 q.2.2.1 q.2.2.2) = true := by decide +kernel
theorem de_61 : ∀ q ∈ tb_61, decode prog_6_method_23_code q.1 = .ok (q.2.1, q.2.2.1) := by decide +kernel
theorem lb_61 : tb_61.all (fun q => am_lb am_C0 tables_1 am_K md_61 q.1 q.2.1 q.2.2.1 q.2.2.2) = true := by decide +kernel
theorem de_62 : ∀ q ∈ tb_62, decode prog_6_method_24_code q.1 = .ok (q.2.1, q.2.2.1) := by decide +kernel
theorem lb_62 : tb_62.all (fun q => am_lb am_C0 tables_1 am_K md_62 q.1 q.2.1 q.2.2.1 q.2.2.2) = true := by decide +kernel
theorem de_63 : ∀ q ∈ tb_63, decode prog_6_method_25_code q.1 = .ok (q.2.1, q.2.2.1) := by decide +kernel
theorem lb_63 : tb_63.all (fun q => am_lb am_C0 tables_1 am_K md_63 q.1 q.2.1 q.2.2.1 q.2.2.2) = true := by decide +kernel
theorem de_64 : ∀ q ∈ tb_64, decode prog_6_method_26_code q.1 = .ok (q.2.1, q.2.2.1) := by decide +kernel
theorem lb_64 : tb_64.all (fun q => am_lb am_C0 tables_1 am_K md_64 q.1 q.2.1 q.2.2.1 q.2.2.2) = true := by decide +kernel
theorem de_65 : ∀ q ∈ tb_65, decode prog_6_method_27_code q.1 = .ok (q.2.1, q.2.2.1) := by decide +kernel
theorem lb_65 : tb_65.all (fun q => am_lb am_C0 tables_1 am_K md_65 q.1 q.2.1 q.2.2.1 q.2.2.2) = true := by decide +kernel
theorem de_66 : ∀ q ∈ tb_66, decode prog_6_method_28_code q.1 = .ok (q.2.1, q.2.2.1) := by decide +kernel
theorem lb_66 : tb_66.all (fun q => am_lb am_C0 tables_1 am_K md_66 q.1 q.2.1 q.2.2.1 q.2.2.2) = true := by decide +kernel
theorem de_67 : ∀ q ∈ tb_67, decode prog_6_method_29_code q.1 = .ok (q.2.1, q.2.2.1) := by decide +kernel
theorem lb_67 : tb_67.all (fun q => am_lb am_C0 tables_1 am_K md_67 q.1 q.2.1 q.2.2.1 q.2.2.2) = true := by decide +kernel
theorem de_68 : ∀ q ∈ tb_68, decode prog_7_method_1_code q.1 = .ok (q.2.1, q.2.2.1) := by decide +kernel
theorem lb_68 : tb_68.all (fun q => am_lb am_C0 tables_1 am_K md_68 q.1 q.2.1 q.2.2.1 q.2.2.2) = true := by decide +kernel
theorem de_69 : ∀ q ∈ tb_69, decode prog_7_method_2_code q.1 = .ok (q.2.1, q.2.2.1) := by decide +kernel
theorem lb_69 : tb_69.all (fun q => am_lb am_C0 tables_1 am_K md_69 q.1 q.2.1 q.2.2.1 q.2.2.2) = true := by decide +kernel
theorem de_70 : ∀ q ∈ tb_70, decode prog_7_method_3_code q.1 = .ok (q.2.1, q.2.2.1) := by decide +kernel
theorem lb_70 : tb_70.all (fun q => am_lb am_C0 tables_1 am_K md_70 q.1 q.2.1 q.2.2.1 q.2.2.2) = true := by decide +kernel
theorem de_71 : ∀ q ∈ tb_71, decode prog_7_method_4_code q.1 = .ok (q.2.1, q.2.2.1) := by decide +kernel
theorem lb_71 : tb_71.all (fun q => am_lb am_C0 tables_1 am_K md_71 q.1 q.2.1 q.2.2.1 q.2.2.2) = true := by decide +kernel
theorem de_72 : ∀ q ∈ tb_72, decode prog_7_method_5_code q.1 = .ok (q.2.1, q.2.2.1) := by decide +kernel
theorem lb_72 : tb_72.all (fun q => am_lb am_C0 tables_1 am_K md_72 q.1 q.2.1 q.2.2.1 q.2.2.2) = true := by decide +kernel
theorem de_73 : ∀ q ∈ tb_73, decode prog_7_method_6_code q.1 = .ok (q.2.1, q.2.2.1) := by decide +kernel
theorem lb_73 : tb_73.all (fun q => am_lb am_C0 tables_1 am_K md_73 q.1 q.2.1 q.2.2.1 q.2.2.2) = true := by decide +kernel
theorem de_74 : ∀ q ∈ tb_74, decode prog_7_method_7_code q.1 = .ok (q.2.1, q.2.2.1) := by decide +kernel
theorem lb_74 : tb_74.all (fun q => am_lb am_C0 tables_1 am_K md_74 q.1 q.2.1 q.2.2.1 q.2.2.2) = true := by decide +kernel
theorem de_75 : ∀ q ∈ tb_75, decode prog_7_method_8_code q.1 = .ok (q.2.1, q.2.2.1) := by decide +kernel
theorem lb_75 : tb_75.all (fun q => am_lb am_C0 tables_1 am_K md_75 q.1 q.2.1 q.2.2.1 q.2.2.2) = true := by decide +kernel
theorem de_76 : ∀ q ∈ tb_76, decode prog_8_method_1_code q.1 = .ok (q.2.1, q.2.2.1) := by decide +kernel
theorem lb_76 : tb_76.all (fun q => am_lb am_C0 tables_1 am_K md_76 q.1 q.2.1 q.2.2.1 q.2.2.2) = true := by decide +kernel
theorem de_77 : ∀ q ∈ tb_77, decode prog_8_method_2_code q.1 = .ok (q.2.1, q.2.2.1) := by decide +kernel
theorem lb_77 : tb_77.all (fun q => am_lb am_C0 tables_1 am_K md_77 q.1 q.2.1 q.2.2.1 q.2.2.2) = true := by decide +kernel
theorem de_78 : ∀ q ∈ tb_78, decode prog_8_method_3_code q.1 = .ok (q.2.1, q.2.2.1) := by decide +kernel
theorem lb_78 : tb_78.all (fun q => am_lb am_C0 tables_1 am_K md_78 q.1 q.2.1 q.2.2.1 q.2.2.2) = true := by decide +kernel
theorem de_79 : ∀ q ∈ tb_79, decode prog_8_method_4_code q.1 = .ok (q.2.1, q.2.2.1) := by decide +kernel
theorem lb_79 : tb_79.all (fun q => am_lb am_C0 tables_1 am_K md_79 q.1 q.2.1 q.2.2.1 q.2.2.2) = true := by decide +kernel
theorem de_80 : ∀ q ∈ tb_80, decode prog_9_method_1_code q.1 = .ok (q.2.1, q.2.2.1) := by decide +kernel
theorem lb_80 : tb_80.all (fun q => am_lb am_C0 tables_1 am_K md_80 q.1 q.2.1 q.2.2.1 q.2.2.2) = true := by decide +kernel
theorem de_81 : ∀ q ∈ tb_81, decode prog_9_method_2_code q.1 = .ok (q.2.1, q.2.2.1) := by decide +kernel
theorem lb_81 : tb_81.all (fun q => am_lb am_C0 tables_1 am_K md_81 q.1 q.2.1 q.2.2.1 q.2.2.2) = true := by decide +kernel
theorem de_82 : ∀ q ∈ tb_82, decode prog_9_method_3_code q.1 = .ok (q.2.1, q.2.2.1) := by decide +kernel
theorem lb_82 : tb_82.all (fun q => am_lb am_C0 tables_1 am_K md_82 q.1 q.2.1 q.2.2.1 q.2.2.2) = true := by decide +kernel
theorem de_83 : ∀ q ∈ tb_83, decode prog_9_method_4_code q.1 = .ok (q.2.1, q.2.2.1) := by decide +kernel
theorem lb_83 : tb_83.all (fun q => am_lb am_C0 tables_1 am_K md_83 q.1 q.2.1 q.2.2.1 q.2.2.2) = true := by decide +kernel
theorem de_84 : ∀ q ∈ tb_84, decode prog_9_method_5_code q.1 = .ok (q.2.1, q.2.2.1) := by decide +kernel
theorem lb_84 : tb_84.all (fun q => am_lb am_C0 tables_1 am_K md_84 q.1 q.2.1 q.2.2.1 q.2.2.2) = true := by decide +kernel
theorem de_85 : ∀ q ∈ tb_85, decode prog_9_method_6_code q.1 = .ok (q.2.1, q.2.2.1) := by decide +kernel
theorem lb_85 : tb_85.all (fun q => am_lb am_C0 tables_1 am_K md_85 q.1 q.2.1 q.2.2.1 q.2.2.2) = true := by decide +kernel
theorem de_86 : ∀ q ∈ tb_86, decode prog_9_method_7_code q.1 = .ok (q.2.1, q.2.2.1) := by decide +kernel
theorem lb_86 : tb_86.all (fun q => am_lb am_C0 tables_1 am_K md_86 q.1 q.2.1 q.2.2.1 q.2.2.2) = true := by decide +kernel
theorem de_87 : ∀ q ∈ tb_87, decode prog_9_method_8_code q.1 = .ok (q.2.1, q.2.2.1) := by decide +kernel
theorem lb_87 : tb_87.all (fun q => am_lb am_C0 tables_1 am_K md_87 q.1 q.2.1 q.2.2.1 q.2.2.2) = true := by decide +kernel
theorem de_88 : ∀ q ∈ tb_88, decode prog_9_method_9_code q.1 = .ok (q.2.1, q.2.2.1) := by decide +kernel
theorem lb_88 : tb_88.all (fun q => am_lb am_C0 tables_1 am_K md_88 q.1 q.2.1 q.2.2.1 q.2.2.2) = true := by decide +kernel
theorem de_89 : ∀ q ∈ tb_89, decode prog_9_method_10_code q.1 = .ok (q.2.1, q.2.2.1) := by decide +kernel
theorem lb_89 : tb_89.all (fun q => am_lb am_C0 tables_1 am_K md_89 q.1 q.2.1 q.2.2.1 q.2.2.2) = true := by decide +kernel
theorem de_90 : ∀ q ∈ tb_90, decode prog_9_method_11_code q.1 = .ok (q.2.1, q.2.2.1) := by decide +kernel
theorem lb_90 : tb_90.all (fun q => am_lb am_C0 tables_1 am_K md_90 q.1 q.2.1 q.2.2.1 q.2.2.2) = true := by decide +kernel
theorem de_91 : ∀ q ∈ tb_91, decode prog_9_method_12_code q.1 = .ok (q.2.1, q.2.2.1) := by decide +kernel
theorem lb_91 : tb_91.all (fun q => am_lb am_C0 tables_1 am_K md_91 q.1 q.2.1 q.2.2.1 q.2.2.2) = true := by decide +kernel
theorem de_92 : ∀ q ∈ tb_92, decode prog_10_method_1_code q.1 = .ok (q.2.1, q.2.2.1) := by decide +kernel
theorem lb_92 : tb_92.all (fun q => am_lb am_C0 tables_1 am_K md_92 q.1 q.2.1 q.2.2.1 q.2.2.2) = true := by decide +kernel
theorem de_93 : ∀ q ∈ tb_93, decode prog_10_method_2_code q.1 = .ok (q.2.1, q.2.2.1) := by decide +kernel
theorem lb_93 : tb_93.all (fun q => am_lb am_C0 tables_1 am_K md_93 q.1 q.2.1 q.2.2.1 q.2.2.2) = true := by decide +kernel
theorem de_94 : ∀ q ∈ tb_94, decode prog_10_method_3_code q.1 = .ok (q.2.1, q.2.2.1) := by decide +kernel
theorem lb_94 : tb_94.all (fun q => am_lb am_C0 tables_1 am_K md_94 q.1 q.2.1 q.2.2.1 q.2.2.2) = true := by decide +kernel
theorem de_95 : ∀ q ∈ tb_95, decode prog_10_method_4_code q.1 = .ok (q.2.1, q.2.2.1) := by decide +kernel
theorem lb_95 : tb_95.all (fun q => am_lb am_C0 tables_1 am_K md_95 q.1 q.2.1 q.2.2.1 q.2.2.2) = true := by decide +kernel
theorem de_96 : ∀ q ∈ tb_96, decode prog_10_method_5_code q.1 = .ok (q.2.1, q.2.2.1) := by decide +kernel
theorem lb_96 : tb_96.all (fun q => am_lb am_C0 tables_1 am_K md_96 q.1 q.2.1 q.2.2.1 q.2.2.2) = true := by decide +kernel
