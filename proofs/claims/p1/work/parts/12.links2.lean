theorem de_97 : ∀ q ∈ tb_97, decode prog_10_method_6_code q.1 = .ok (q.2.1, q.2.2.1) := by decide +kernel
theorem lb_97 : tb_97.all (fun q => am_lb am_C0 tables_1 am_K md_97 q.1 q.2.1 q.2.2.1 q.2.2.2) = true := by decide +kernel
theorem de_98 : ∀ q ∈ tb_98, decode prog_10_method_7_code q.1 = .ok (q.2.1, q.2.2.1) := by decide +kernel
theorem lb_98 : tb_98.all (fun q => am_lb am_C0 tables_1 am_K md_98 q.1 q.2.1 q.2.2.1 q.2.2.2) = true := by decide +kernel
theorem de_99 : ∀ q ∈ tb_99, decode prog_10_method_8_code q.1 = .ok (q.2.1, q.2.2.1) := by decide +kernel
theorem lb_99 : tb_99.all (fun q => am_lb am_C0 tables_1 am_K md_99 q.1 q.2.1 q.2.2.1 q.2.2.2) = true := by decide +kernel
theorem de_100 : ∀ q ∈ tb_100, decode prog_10_method_9_code q.1 = .ok (q.2.1, q.2.2.1) := by decide +kernel
theorem lb_100 : tb_100.all (fun q => am_lb am_C0 tables_1 am_K md_100 q.1 q.2.1 q.2.2.1 q.2.2.2) = true := by decide +kernel
theorem de_101 : ∀ q ∈ tb_101, decode prog_10_method_10_code q.1 = .ok (q.2.1, q.2.2.1) := by decide +kernel
theorem lb_101 : tb_101.all (fun q => am_lb am_C0 tables_1 am_K md_101 q.1 q.2.1 q.2.2.1 q.2.2.2) = true := by decide +kernel
theorem de_102 : ∀ q ∈ tb_102, decode prog_10_method_11_code q.1 = .ok (q.2.1, q.2.2.1) := by decide +kernel
theorem lb_102 : tb_102.all (fun q => am_lb am_C0 tables_1 am_K md_102 q.1 q.2.1 q.2.2.1 q.2.2.2) = true := by decide +kernel
theorem de_103 : ∀ q ∈ tb_103, decode prog_10_method_12_code q.1 = .ok (q.2.1, q.2.2.1) := by decide +kernel
theorem lb_103 : tb_103.all (fun q => am_lb am_C0 tables_1 am_K md_103 q.1 q.2.1 q.2.2.1 q.2.2.2) = true := by decide +kernel
theorem de_104 : ∀ q ∈ tb_104, decode prog_10_method_13_code q.1 = .ok (q.2.1, q.2.2.1) := by decide +kernel
theorem lb_104 : tb_104.all (fun q => am_lb am_C0 tables_1 am_K md_104 q.1 q.2.1 q.2.2.1 q.2.2.2) = true := by decide +kernel
theorem de_105 : ∀ q ∈ tb_105, decode prog_10_method_14_code q.1 = .ok (q.2.1, q.2.2.1) := by decide +kernel
theorem lb_105 : tb_105.all (fun q => am_lb am_C0 tables_1 am_K md_105 q.1 q.2.1 q.2.2.1 q.2.2.2) = true := by decide +kernel
theorem de_106 : ∀ q ∈ tb_106, decode prog_10_method_15_code q.1 = .ok (q.2.1, q.2.2.1) := by decide +kernel
theorem lb_106 : tb_106.all (fun q => am_lb am_C0 tables_1 am_K md_106 q.1 q.2.1 q.2.2.1 q.2.2.2) = true := by decide +kernel
theorem de_107 : ∀ q ∈ tb_107, decode prog_10_method_16_code q.1 = .ok (q.2.1, q.2.2.1) := by decide +kernel
theorem lb_107 : tb_107.all (fun q => am_lb am_C0 tables_1 am_K md_107 q.1 q.2.1 q.2.2.1 q.2.2.2) = true := by decide +kernel
theorem de_108 : ∀ q ∈ tb_108, decode prog_1_method_1_code q.1 = .ok (q.2.1, q.2.2.1) := by decide +kernel
theorem lb_108 : tb_108.all (fun q => am_lb am_C0 tables_1 am_K md_108 q.1 q.2.1 q.2.2.1 q.2.2.2) = true := by decide +kernel
theorem de_109 : ∀ q ∈ tb_109, decode prog_1_method_2_code q.1 = .ok (q.2.1, q.2.2.1) := by decide +kernel
theorem lb_109 : tb_109.all (fun q => am_lb am_C0 tables_1 am_K md_109 q.1 q.2.1 q.2.2.1 q.2.2.2) = true := by decide +kernel
theorem de_110 : ∀ q ∈ tb_110, decode prog_1_method_3_code q.1 = .ok (q.2.1, q.2.2.1) := by decide +kernel
theorem lb_110 : tb_110.all (fun q => am_lb am_C0 tables_1 am_K md_110 q.1 q.2.1 q.2.2.1 q.2.2.2) = true := by decide +kernel
theorem de_111 : ∀ q ∈ tb_111, decode prog_1_method_4_code q.1 = .ok (q.2.1, q.2.2.1) := by decide +kernel
theorem lb_111 : tb_111.all (fun q => am_lb am_C0 tables_1 am_K md_111 q.1 q.2.1 q.2.2.1 q.2.2.2) = true := by decide +kernel
theorem de_112 : ∀ q ∈ tb_112, decode prog_1_method_5_code q.1 = .ok (q.2.1, q.2.2.1) := by decide +kernel
theorem lb_112 : tb_112.all (fun q => am_lb am_C0 tables_1 am_K md_112 q.1 q.2.1 q.2.2.1 q.2.2.2) = true := by decide +kernel
theorem de_113 : ∀ q ∈ tb_113, decode prog_1_method_6_code q.1 = .ok (q.2.1, q.2.2.1) := by decide +kernel
theorem lb_113 : tb_113.all (fun q => am_lb am_C0 tables_1 am_K md_113 q.1 q.2.1 q.2.2.1 q.2.2.2) = true := by decide +kernel
theorem de_114 : ∀ q ∈ tb_114, decode prog_1_method_7_code q.1 = .ok (q.2.1, q.2.2.1) := by decide +kernel
theorem lb_114 : tb_114.all (fun q => am_lb am_C0 tables_1 am_K md_114 q.1 q.2.1 q.2.2.1 q.2.2.2) = true := by decide +kernel
theorem de_115 : ∀ q ∈ tb_115, decode prog_1_method_8_code q.1 = .ok (q.2.1, q.2.2.1) := by decide +kernel
theorem lb_115 : tb_115.all (fun q => am_lb am_C0 tables_1 am_K md_115 q.1 q.2.1 q.2.2.1 q.2.2.2) = true := by decide +kernel
theorem de_116 : ∀ q ∈ tb_116, decode prog_1_method_9_code q.1 = .ok (q.2.1, q.2.2.1) := by decide +kernel
theorem lb_116 : tb_116.all (fun q => am_lb am_C0 tables_1 am_K md_116 q.1 q.2.1 q.2.2.1 q.2.2.2) = true := by decide +kernel
theorem de_117 : ∀ q ∈ tb_117, decode prog_1_method_10_code q.1 = .ok (q.2.1, q.2.2.1) := by decide +kernel
theorem lb_117 : tb_117.all (fun q => am_lb am_C0 tables_1 am_K md_117 q.1 q.2.1 q.2.2.1 q.2.2.2) = true := by decide +kernel
theorem de_118 : ∀ q ∈ tb_118, decode prog_1_method_11_code q.1 = .ok (q.2.1, q.2.2.1) := by decide +kernel
theorem lb_118 : tb_118.all (fun q => am_lb am_C0 tables_1 am_K md_118 q.1 q.2.1 q.2.2.1 q.2.2.2) = true := by decide +kernel
theorem de_119 : ∀ q ∈ tb_119, decode prog_1_method_12_code q.1 = .ok (q.2.1, q.2.2.1) := by decide +kernel
theorem lb_119 : tb_119.all (fun q => am_lb am_C0 tables_1 am_K md_119 q.1 q.2.1 q.2.2.1 q.2.2.2) = true := by decide +kernel
theorem de_120 : ∀ q ∈ tb_120, decode prog_1_method_13_code q.1 = .ok (q.2.1, q.2.2.1) := by decide +kernel
theorem lb_120 : tb_120.all (fun q => am_lb am_C0 tables_1 am_K md_120 q.1 q.2.1 q.2.2.1 q.2.2.2) = true := by decide +kernel
theorem de_121 : ∀ q ∈ tb_121, decode prog_1_method_14_code q.1 = .ok (q.2.1, q.2.2.1) := by decide +kernel
theorem lb_121 : tb_121.all (fun q => am_lb am_C0 tables_1 am_K md_121 q.1 q.2.1 q.2.2.1 q.2.2.2) = true := by decide +kernel
theorem de_122 : ∀ q ∈ tb_122, decode prog_1_method_15_code q.1 = .ok (q.2.1, q.2.2.1) := by decide +kernel
theorem lb_122 : tb_122.all (fun q => am_lb am_C0 tables_1 am_K md_122 q.1 q.2.1 q.2.2.1 q.2.2.2) = true := by decide +kernel
theorem de_123 : ∀ q ∈ tb_123, decode prog_1_method_16_code q.1 = .ok (q.2.1, q.2.2.1) := by decide +kernel
theorem lb_123 : tb_123.all (fun q => am_lb am_C0 tables_1 am_K md_123 q.1 q.2.1 q.2.2.1 q.2.2.2) = true := by decide +kernel
theorem de_124 : ∀ q ∈ tb_124, decode prog_1_method_17_code q.1 = .ok (q.2.1, q.2.2.1) := by decide +kernel
theorem lb_124 : tb_124.all (fun q => am_lb am_C0 tables_1 am_K md_124 q.1 q.2.1 q.2.2.1 q.2.2.2) = true := by decide +kernel
theorem de_125 : ∀ q ∈ tb_125, decode prog_1_method_18_code q.1 = .ok (q.2.1, q.2.2.1) := by decide +kernel
theorem lb_125 : tb_125.all (fun q => am_lb am_C0 tables_1 am_K md_125 q.1 q.2.1 q.2.2.1 q.2.2.2) = true := by decide +kernel
theorem de_126 : ∀ q ∈ tb_126, decode prog_1_method_19_code q.1 = .ok (q.2.1, q.2.2.1) := by decide +kernel
theorem lb_126 : tb_126.all (fun q => am_lb am_C0 tables_1 am_K md_126 q.1 q.2.1 q.2.2.1 q.2.2.2) = true := by decide +kernel
theorem de_127 : ∀ q ∈ tb_127, decode prog_1_method_20_code q.1 = .ok (q.2.1, q.2.2.1) := by decide +kernel
theorem lb_127 : tb_127.all (fun q => am_lb am_C0 tables_1 am_K md_127 q.1 q.2.1 q.2.2.1 q.2.2.2) = true := by decide +kernel
theorem de_128 : ∀ q ∈ tb_128, decode prog_1_method_21_code q.1 = .ok (q.2.1, q.2.2.1) := by decide +kernel
theorem lb_128 : tb_128.all (fun q => am_lb am_C0 tables_1 am_K md_128 q.1 q.2.1 q.2.2.1 q.2.2.2) = true := by decide +kernel
theorem de_129 : ∀ q ∈ tb_129, decode prog_1_method_22_code q.1 = .ok (q.2.1, q.2.2.1) := by decide +kernel
theorem lb_129 : tb_129.all (fun q => am_lb am_C0 tables_1 am_K md_129 q.1 q.2.1 q.2.2.1 q.2.2.2) = true := by decide +kernel
theorem de_130 : ∀ q ∈ tb_130, decode prog_12_method_1_code q.1 = .ok (q.2.1, q.2.2.1) := by decide +kernel
theorem lb_130 : tb_130.all (fun q => am_lb am_C0 tables_1 am_K md_130 q.1 q.2.1 q.2.2.1 q.2.2.2) = true := by decide +kernel
theorem de_131 : ∀ q ∈ tb_131, decode prog_12_method_2_code q.1 = .ok (q.2.1, q.2.2.1) := by decide +kernel
theorem lb_131 : tb_131.all (fun q => am_lb am_C0 tables_1 am_K md_131 q.1 q.2.1 q.2.2.1 q.2.2.2) = true := by decide +kernel
theorem de_132 : ∀ q ∈ tb_132, decode prog_12_method_3_code q.1 = .ok (q.2.1, q.2.2.1) := by decide +kernel
theorem lb_132 : tb_132.all (fun q => am_lb am_C0 tables_1 am_K md_132 q.1 q.2.1 q.2.2.1 q.2.2.2) = true := by decide +kernel
theorem de_133 : ∀ q ∈ tb_133, decode prog_12_method_4_code q.1 = .ok (q.2.1, q.2.2.1) := by decide +kernel
theorem lb_133 : tb_133.all (fun q => am_lb am_C0 tables_1 am_K md_133 q.1 q.2.1 q.2.2.1 q.2.2.2) = true := by decide +kernel
theorem de_134 : ∀ q ∈ tb_134, decode prog_12_method_5_code q.1 = .ok (q.2.1, q.2.2.1) := by decide +kernel
theorem lb_134 : tb_134.all (fun q => am_lb am_C0 tables_1 am_K md_134 q.1 q.2.1 q.2.2.1 q.2.2.2) = true := by decide +kernel
theorem de_135 : ∀ q ∈ tb_135, decode prog_12_method_6_code q.1 = .ok (q.2.1, q.2.2.1) := by decide +kernel
theorem lb_135 : tb_135.all (fun q => am_lb am_C0 tables_1 am_K md_135 q.1 q.2.1 q.2.2.1 q.2.2.2) = true := by decide +kernel
theorem de_136 : ∀ q ∈ tb_136, decode prog_12_method_7_code q.1 = .ok (q.2.1, q.2.2.1) := by decide +kernel
theorem lb_136 : tb_136.all (fun q => am_lb am_C0 tables_1 am_K md_136 q.1 q.2.1 q.2.2.1 q.2.2.2) = true := by decide +kernel
theorem de_137 : ∀ q ∈ tb_137, decode prog_12_method_8_code q.1 = .ok (q.2.1, q.2.2.1) := by decide +kernel
theorem lb_137 : tb_137.all (fun q => am_lb am_C0 tables_1 am_K md_137 q.1 q.2.1 q.2.2.1 q.2.2.2) = true := by decide +kernel
theorem de_138 : ∀ q ∈ tb_138, decode prog_12_method_9_code q.1 = .ok (q.2.1, q.2.2.1) := by decide +kernel
theorem lb_138 : tb_138.all (fun q => am_lb am_C0 tables_1 am_K md_138 q.1 q.2.1 q.2.2.1 q.2.2.2) = true := by decide +kernel
theorem de_139 : ∀ q ∈ tb_139, decode prog_12_method_10_code q.1 = .ok (q.2.1, q.2.2.1) := by decide +kernel
theorem lb_139 : tb_139.all (fun q => am_lb am_C0 tables_1 am_K md_139 q.1 q.2.1 q.2.2.1 q.2.2.2) = true := by decide +kernel
theorem de_140 : ∀ q ∈ tb_140, decode prog_12_method_11_code q.1 = .ok (q.2.1, q.2.2.1) := by decide +kernel
theorem lb_140 : tb_140.all (fun q => am_lb am_C0 tables_1 am_K md_140 q.1 q.2.1 q.2.2.1 q.2.2.2) = true := by decide +kernel
theorem de_141 : ∀ q ∈ tb_141, decode prog_12_method_12_code q.1 = .ok (q.2.1, q.2.2.1) := by decide +kernel
theorem lb_141 : tb_141.all (fun q => am_lb am_C0 tables_1 am_K md_141 q.1 q.2.1 q.2.2.1 q.2.2.2) = true := by decide +kernel
