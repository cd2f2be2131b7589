theorem de_165 : ∀ q ∈ tb_165, decode prog_12_method_36_code q.1 = .ok (q.2.1, q.2.2.1) := by decide +kernel
theorem lb_165 : tb_165.all (fun q => am_lb am_C0 tables_1 am_K md_165 q.1 q.2.1 q.2.2.1 q.2.2.2) = true := by decide +kernel
theorem de_166 : ∀ q ∈ tb_166, decode prog_12_method_37_code q.1 = .ok (q.2.1, q.2.2.1) := by decide +kernel
theorem lb_166 : tb_166.all (fun q => am_lb am_C0 tables_1 am_K md_166 q.1 q.2.1 q.2.2.1 q.2.2.2) = true := by decide +kernel
theorem de_167 : ∀ q ∈ tb_167, decode prog_12_method_38_code q.1 = .ok (q.2.1, q.2.2.1) := by decide +kernel
theorem lb_167 : tb_167.all (fun q => am_lb am_C0 tables_1 am_K md_167 q.1 q.2.1 q.2.2.1 q.2.2.2) = true := by decide +kernel
theorem de_168 : ∀ q ∈ tb_168, decode prog_12_method_39_code q.1 = .ok (q.2.1, q.2.2.1) := by decide +kernel
theorem lb_168 : tb_168.all (fun q => am_lb am_C0 tables_1 am_K md_168 q.1 q.2.1 q.2.2.1 q.2.2.2) = true := by decide +kernel
theorem de_169 : ∀ q ∈ tb_169, decode prog_12_method_40_code q.1 = .ok (q.2.1, q.2.2.1) := by decide +kernel
theorem lb_169 : tb_169.all (fun q => am_lb am_C0 tables_1 am_K md_169 q.1 q.2.1 q.2.2.1 q.2.2.2) = true := by decide +kernel
theorem de_170 : ∀ q ∈ tb_170, decode prog_12_method_41_code q.1 = .ok (q.2.1, q.2.2.1) := by decide +kernel
theorem lb_170 : tb_170.all (fun q => am_lb am_C0 tables_1 am_K md_170 q.1 q.2.1 q.2.2.1 q.2.2.2) = true := by decide +kernel
theorem de_171 : ∀ q ∈ tb_171, decode prog_12_method_42_code q.1 = .ok (q.2.1, q.2.2.1) := by decide +kernel
theorem lb_171 : tb_171.all (fun q => am_lb am_C0 tables_1 am_K md_171 q.1 q.2.1 q.2.2.1 q.2.2.2) = true := by decide +kernel
theorem de_172 : ∀ q ∈ tb_172, decode prog_12_method_43_code q.1 = .ok (q.2.1, q.2.2.1) := by decide +kernel
theorem lb_172 : tb_172.all (fun q => am_lb am_C0 tables_1 am_K md_172 q.1 q.2.1 q.2.2.1 q.2.2.2) = true := by decide +kernel
theorem de_173 : ∀ q ∈ tb_173, decode prog_12_method_44_code q.1 = .ok (q.2.1, q.2.2.1) := by decide +kernel
theorem lb_173 : tb_173.all (fun q => am_lb am_C0 tables_1 am_K md_173 q.1 q.2.1 q.2.2.1 q.2.2.2) = true := by decide +kernel
theorem de_174 : ∀ q ∈ tb_174, decode prog_12_method_45_code q.1 = .ok (q.2.1, q.2.2.1) := by decide +kernel
theorem lb_174 : tb_174.all (fun q => am_lb am_C0 tables_1 am_K md_174 q.1 q.2.1 q.2.2.1 q.2.2.2) = true := by decide +kernel
theorem de_175 : ∀ q ∈ tb_175, decode prog_12_method_46_code q.1 = .ok (q.2.1, q.2.2.1) := by decide +kernel
theorem lb_175 : tb_175.all (fun q => am_lb am_C0 tables_1 am_K md_175 q.1 q.2.1 q.2.2.1 q.2.2.2) = true := by decide +kernel
theorem de_176 : ∀ q ∈ tb_176, decode prog_12_method_47_code q.1 = .ok (q.2.1, q.2.2.1) := by decide +kernel
theorem lb_176 : tb_176.all (fun q => am_lb am_C0 tables_1 am_K md_176 q.1 q.2.1 q.2.2.1 q.2.2.2) = true := by decide +kernel
theorem de_177 : ∀ q ∈ tb_177, decode prog_12_method_48_code q.1 = .ok (q.2.1, q.2.2.1) := by decide +kernel
theorem lb_177 : tb_177.all (fun q => am_lb am_C0 tables_1 am_K md_177 q.1 q.2.1 q.2.2.1 q.2.2.2) = true := by decide +kernel
theorem de_178 : ∀ q ∈ tb_178, decode prog_12_method_49_code q.1 = .ok (q.2.1, q.2.2.1) := by decide +kernel
theorem lb_178 : tb_178.all (fun q => am_lb am_C0 tables_1 am_K md_178 q.1 q.2.1 q.2.2.1 q.2.2.2) = true := by decide +kernel
theorem de_179 : ∀ q ∈ tb_179, decode prog_12_method_50_code q.1 = .ok (q.2.1, q.2.2.1) := by decide +kernel
theorem lb_179 : tb_179.all (fun q => am_lb am_C0 tables_1 am_K md_179 q.1 q.2.1 q.2.2.1 q.2.2.2) = true := by decide +kernel
theorem de_180 : ∀ q ∈ tb_180, decode prog_12_method_51_code q.1 = .ok (q.2.1, q.2.2.1) := by decide +kernel
theorem lb_180 : tb_180.all (fun q => am_lb am_C0 tables_1 am_K md_180 q.1 q.2.1 q.2.2.1 q.2.2.2) = true := by decide +kernel
theorem de_181 : ∀ q ∈ tb_181, decode prog_12_method_52_code q.1 = .ok (q.2.1, q.2.2.1) := by decide +kernel
theorem lb_181 : tb_181.all (fun q => am_lb am_C0 tables_1 am_K md_181 q.1 q.2.1 q.2.2.1 q.2.2.2) = true := by decide +kernel
theorem de_182 : ∀ q ∈ tb_182, decode prog_12_method_53_code q.1 = .ok (q.2.1, q.2.2.1) := by decide +kernel
theorem lb_182 : tb_182.all (fun q => am_lb am_C0 tables_1 am_K md_182 q.1 q.2.1 q.2.2.1 q.2.2.2) = true := by decide +kernel
theorem de_183 : ∀ q ∈ tb_183, decode prog_12_method_54_code q.1 = .ok (q.2.1, q.2.2.1) := by decide +kernel
theorem lb_183 : tb_183.all (fun q => am_lb am_C0 tables_1 am_K md_183 q.1 q.2.1 q.2.2.1 q.2.2.2) = true := by decide +kernel
theorem de_184 : ∀ q ∈ tb_184, decode prog_12_method_55_code q.1 = .ok (q.2.1, q.2.2.1) := by decide +kernel
theorem lb_184 : tb_184.all (fun q => am_lb am_C0 tables_1 am_K md_184 q.1 q.2.1 q.2.2.1 q.2.2.2) = true := by decide +kernel
theorem de_185 : ∀ q ∈ tb_185, decode prog_12_method_56_code q.1 = .ok (q.2.1, q.2.2.1) := by decide +kernel
theorem lb_185 : tb_185.all (fun q => am_lb am_C0 tables_1 am_K md_185 q.1 q.2.1 q.2.2.1 q.2.2.2) = true := by decide +kernel
theorem de_186 : ∀ q ∈ tb_186, decode prog_12_method_57_code q.1 = .ok (q.2.1, q.2.2.1) := by decide +kernel
theorem lb_186 : tb_186.all (fun q => am_lb am_C0 tables_1 am_K md_186 q.1 q.2.1 q.2.2.1 q.2.2.2) = true := by decide +kernel
theorem de_187 : ∀ q ∈ tb_187, decode prog_12_method_58_code q.1 = .ok (q.2.1, q.2.2.1) := by decide +kernel
theorem lb_187 : tb_187.all (fun q => am_lb am_C0 tables_1 am_K md_187 q.1 q.2.1 q.2.2.1 q.2.2.2) = true := by decide +kernel
theorem de_188 : ∀ q ∈ tb_188, decode prog_12_method_59_code q.1 = .ok (q.2.1, q.2.2.1) := by decide +kernel
theorem lb_188 : tb_188.all (fun q => am_lb am_C0 tables_1 am_K md_188 q.1 q.2.1 q.2.2.1 q.2.2.2) = true := by decide +kernel
theorem de_189 : ∀ q ∈ tb_189, decode prog_12_method_60_code q.1 = .ok (q.2.1, q.2.2.1) := by decide +kernel
theorem lb_189 : tb_189.all (fun q => am_lb am_C0 tables_1 am_K md_189 q.1 q.2.1 q.2.2.1 q.2.2.2) = true := by decide +kernel
theorem de_190 : ∀ q ∈ tb_190, decode prog_12_method_61_code q.1 = .ok (q.2.1, q.2.2.1) := by decide +kernel
theorem lb_190 : tb_190.all (fun q => am_lb am_C0 tables_1 am_K md_190 q.1 q.2.1 q.2.2.1 q.2.2.2) = true := by decide +kernel
theorem de_191 : ∀ q ∈ tb_191, decode prog_12_method_62_code q.1 = .ok (q.2.1, q.2.2.1) := by decide +kernel
theorem lb_191 : tb_191.all (fun q => am_lb am_C0 tables_1 am_K md_191 q.1 q.2.1 q.2.2.1 q.2.2.2) = true := by decide +kernel
theorem de_192 : ∀ q ∈ tb_192, decode prog_12_method_63_code q.1 = .ok (q.2.1, q.2.2.1) := by decide +kernel
theorem lb_192 : tb_192.all (fun q => am_lb am_C0 tables_1 am_K md_192 q.1 q.2.1 q.2.2.1 q.2.2.2) = true := by decide +kernel
theorem de_193 : ∀ q ∈ tb_193, decode prog_12_method_64_code q.1 = .ok (q.2.1, q.2.2.1) := by decide +kernel
theorem lb_193 : tb_193.all (fun q => am_lb am_C0 tables_1 am_K md_193 q.1 q.2.1 q.2.2.1 q.2.2.2) = true := by decide +kernel
theorem de_194 : ∀ q ∈ tb_194, decode prog_12_method_65_code q.1 = .ok (q.2.1, q.2.2.1) := by decide +kernel
theorem lb_194 : tb_194.all (fun q => am_lb am_C0 tables_1 am_K md_194 q.1 q.2.1 q.2.2.1 q.2.2.2) = true := by decide +kernel
theorem de_195 : ∀ q ∈ tb_195, decode prog_12_method_66_code q.1 = .ok (q.2.1, q.2.2.1) := by decide +kernel
theorem lb_195 : tb_195.all (fun q => am_lb am_C0 tables_1 am_K md_195 q.1 q.2.1 q.2.2.1 q.2.2.2) = true := by decide +kernel
theorem de_196 : ∀ q ∈ tb_196, decode prog_12_method_67_code q.1 = .ok (q.2.1, q.2.2.1) := by decide +kernel
theorem lb_196 : tb_196.all (fun q => am_lb am_C0 tables_1 am_K md_196 q.1 q.2.1 q.2.2.1 q.2.2.2) = true := by decide +kernel
theorem de_197 : ∀ q ∈ tb_197, decode prog_12_method_68_code q.1 = .ok (q.2.1, q.2.2.1) := by decide +kernel
theorem lb_197 : tb_197.all (fun q => am_lb am_C0 tables_1 am_K md_197 q.1 q.2.1 q.2.2.1 q.2.2.2) = true := by decide +kernel
theorem de_198 : ∀ q ∈ tb_198, decode prog_12_method_69_code q.1 = .ok (q.2.1, q.2.2.1) := by decide +kernel
theorem lb_198 : tb_198.all (fun q => am_lb am_C0 tables_1 am_K md_198 q.1 q.2.1 q.2.2.1 q.2.2.2) = true := by decide +kernel
theorem de_199 : ∀ q ∈ tb_199, decode prog_12_method_70_code q.1 = .ok (q.2.1, q.2.2.1) := by decide +kernel
theorem lb_199 : tb_199.all (fun q => am_lb am_C0 tables_1 am_K md_199 q.1 q.2.1 q.2.2.1 q.2.2.2) = true := by decide +kernel
theorem de_200 : ∀ q ∈ tb_200, decode prog_12_method_71_code q.1 = .ok (q.2.1, q.2.2.1) := by decide +kernel
theorem lb_200 : tb_200.all (fun q => am_lb am_C0 tables_1 am_K md_200 q.1 q.2.1 q.2.2.1 q.2.2.2) = true := by decide +kernel
theorem de_201 : ∀ q ∈ tb_201, decode prog_12_method_72_code q.1 = .ok (q.2.1, q.2.2.1) := by decide +kernel
theorem lb_201 : tb_201.all (fun q => am_lb am_C0 tables_1 am_K md_201 q.1 q.2.1 q.2.2.1 q.2.2.2) = true := by decide +kernel
