theorem de_142 : ∀ q ∈ tb_142, decode prog_12_method_13_code q.1 = .ok (q.2.1, q.2.2.1) := by decide +kernel
theorem lb_142 : tb_142.all (fun q => am_lb am_C0 tables_1 am_K md_142 q.1 q.2.1 q.2.2.1 q.2.2.2) = true := by decide +kernel
theorem de_143 : ∀ q ∈ tb_143, decode prog_12_method_14_code q.1 = .ok (q.2.1, q.2.2.1) := by decide +kernel
theorem lb_143 : tb_143.all (fun q => am_lb am_C0 tables_1 am_K md_143 q.1 q.2.1 q.2.2.1 q.2.2.2) = true := by decide +kernel
theorem de_144 : ∀ q ∈ tb_144, decode prog_12_method_15_code q.1 = .ok (q.2.1, q.2.2.1) := by decide +kernel
theorem lb_144 : tb_144.all (fun q => am_lb am_C0 tables_1 am_K md_144 q.1 q.2.1 q.2.2.1 q.2.2.2) = true := by decide +kernel
theorem de_145 : ∀ q ∈ tb_145, decode prog_12_method_16_code q.1 = .ok (q.2.1, q.2.2.1) := by decide +kernel
theorem lb_145 : tb_145.all (fun q => am_lb am_C0 tables_1 am_K md_145 q.1 q.2.1 q.2.2.1 q.2.2.2) = true := by decide +kernel
theorem de_146 : ∀ q ∈ tb_146, decode prog_12_method_17_code q.1 = .ok (q.2.1, q.2.2.1) := by decide +kernel
theorem lb_146 : tb_146.all (fun q => am_lb am_C0 tables_1 am_K md_146 q.1 q.2.1 q.2.2.1 q.2.2.2) = true := by decide +kernel
theorem de_147 : ∀ q ∈ tb_147, decode prog_12_method_18_code q.1 = .ok (q.2.1, q.2.2.1) := by decide +kernel
theorem lb_147 : tb_147.all (fun q => am_lb am_C0 tables_1 am_K md_147 q.1 q.2.1 q.2.2.1 q.2.2.2) = true := by decide +kernel
theorem de_148 : ∀ q ∈ tb_148, decode prog_12_method_19_code q.1 = .ok (q.2.1, q.2.2.1) := by decide +kernel
theorem lb_148 : tb_148.all (fun q => am_lb am_C0 tables_1 am_K md_148 q.1 q.2.1 q.2.2.1 q.2.2.2) = true := by decide +kernel
theorem de_149 : ∀ q ∈ tb_149, decode prog_12_method_20_code q.1 = .ok (q.2.1, q.2.2.1) := by decide +kernel
theorem lb_149 : tb_149.all (fun q => am_lb am_C0 tables_1 am_K md_149 q.1 q.2.1 q.2.2.1 q.2.2.2) = true := by decide +kernel
theorem de_150 : ∀ q ∈ tb_150, decode prog_12_method_21_code q.1 = .ok (q.2.1, q.2.2.1) := by decide +kernel
theorem lb_150 : tb_150.all (fun q => am_lb am_C0 tables_1 am_K md_150 q.1 q.2.1 q.2.2.1 q.2.2.2) = true := by decide +kernel
theorem de_151 : ∀ q ∈ tb_151, decode prog_12_method_22_code q.1 = .ok (q.2.1, q.2.2.1) := by decide +kernel
theorem lb_151 : tb_151.all (fun q => am_lb am_C0 tables_1 am_K md_151 q.1 q.2.1 q.2.2.1 q.2.2.2) = true := by decide +kernel
theorem de_152 : ∀ q ∈ tb_152, decode prog_12_method_23_code q.1 = .ok (q.2.1, q.2.2.1) := by decide +kernel
theorem lb_152 : tb_152.all (fun q => am_lb am_C0 tables_1 am_K md_152 q.1 q.2.1 q.2.2.1 q.2.2.2) = true := by decide +kernel
theorem de_153 : ∀ q ∈ tb_153, decode prog_12_method_24_code q.1 = .ok (q.2.1, q.2.2.1) := by decide +kernel
theorem lb_153 : tb_153.all (fun q => am_lb am_C0 tables_1 am_K md_153 q.1 q.2.1 q.2.2.1 q.2.2.2) = true := by decide +kernel
theorem de_154 : ∀ q ∈ tb_154, decode prog_12_method_25_code q.1 = .ok (q.2.1, q.2.2.1) := by decide +kernel
theorem lb_154 : tb_154.all (fun q => am_lb am_C0 tables_1 am_K md_154 q.1 q.2.1 q.2.2.1 q.2.2.2) = true := by decide +kernel
theorem de_155 : ∀ q ∈ tb_155, decode prog_12_method_26_code q.1 = .ok (q.2.1, q.2.2.1) := by decide +kernel
theorem lb_155 : tb_155.all (fun q => am_lb am_C0 tables_1 am_K md_155 q.1 q.2.1 q.2.2.1 q.2.2.2) = true := by decide +kernel
theorem de_156 : ∀ q ∈ tb_156, decode prog_12_method_27_code q.1 = .ok (q.2.1, q.2.2.1) := by decide +kernel
theorem lb_156 : tb_156.all (fun q => am_lb am_C0 tables_1 am_K md_156 q.1 q.2.1 q.2.2.1 q.2.2.2) = true := by decide +kernel
theorem de_157 : ∀ q ∈ tb_157, decode prog_12_method_28_code q.1 = .ok (q.2.1, q.2.2.1) := by decide +kernel
theorem lb_157 : tb_157.all (fun q => am_lb am_C0 tables_1 am_K md_157 q.1 q.2.1 q.2.2.1 q.2.2.2) = true := by decide +kernel
theorem de_158 : ∀ q ∈ tb_158, decode prog_12_method_29_code q.1 = .ok (q.2.1, q.2.2.1) := by decide +kernel
theorem lb_158 : tb_158.all (fun q => am_lb am_C0 tables_1 am_K md_158 q.1 q.2.1 q.2.2.1 q.2.2.2) = true := by decide +kernel
theorem de_159 : ∀ q ∈ tb_159, decode prog_12_method_30_code q.1 = .ok (q.2.1, q.2.2.1) := by decide +kernel
theorem lb_159 : tb_159.all (fun q => am_lb am_C0 tables_1 am_K md_159 q.1 q.2.1 q.2.2.1 q.2.2.2) = true := by decide +kernel
theorem de_160 : ∀ q ∈ tb_160, decode prog_12_method_31_code q.1 = .ok (q.2.1, q.2.2.1) := by decide +kernel
theorem lb_160 : tb_160.all (fun q => am_lb am_C0 tables_1 am_K md_160 q.1 q.2.1 q.2.2.1 q.2.2.2) = true := by decide +kernel
theorem de_161 : ∀ q ∈ tb_161, decode prog_12_method_32_code q.1 = .ok (q.2.1, q.2.2.1) := by decide +kernel
theorem lb_161 : tb_161.all (fun q => am_lb am_C0 tables_1 am_K md_161 q.1 q.2.1 q.2.2.1 q.2.2.2) = true := by decide +kernel
theorem de_162 : ∀ q ∈ tb_162, decode prog_12_method_33_code q.1 = .ok (q.2.1, q.2.2.1) := by decide +kernel
theorem lb_162 : tb_162.all (fun q => am_lb am_C0 tables_1 am_K md_162 q.1 q.2.1 q.2.2.1 q.2.2.2) = true := by decide +kernel
theorem de_163 : ∀ q ∈ tb_163, decode prog_12_method_34_code q.1 = .ok (q.2.1, q.2.2.1) := by decide +kernel
theorem lb_163 : tb_163.all (fun q => am_lb am_C0 tables_1 am_K md_163 q.1 q.2.1 q.2.2.1 q.2.2.2) = true := by decide +kernel
theorem de_164 : ∀ q ∈ tb_164, decode prog_12_method_35_code q.1 = .ok (q.2.1, q.2.2.1) := by decide +kernel
theorem lb_164 : tb_164.all (fun q => am_lb am_C0 tables_1 am_K md_164 q.1 q.2.1 q.2.2.1 q.2.2.2) = true := by decide +kernel
