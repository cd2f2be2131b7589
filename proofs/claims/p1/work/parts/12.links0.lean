theorem de_0 : ∀ q ∈ tb_0, decode code q.1 = .ok (q.2.1, q.2.2.1) := by decide +kernel
theorem lb_0 : tb_0.all (fun q => am_lb am_C0 tables_1 am_K md_0 q.1 q.2.1 q.2.2.1 q.2.2.2) = true := by decide +kernel
theorem de_1 : ∀ q ∈ tb_1, decode prog_2_method_1_code q.1 = .ok (q.2.1, q.2.2.1) := by decide +kernel
theorem lb_1 : tb_1.all (fun q => am_lb am_C0 tables_1 am_K md_1 q.1 q.2.1 q.2.2.1 q.2.2.2) = true := by decide +kernel
theorem de_2 : ∀ q ∈ tb_2, decode prog_2_method_2_code q.1 = .ok (q.2.1, q.2.2.1) := by decide +kernel
theorem lb_2 : tb_2.all (fun q => am_lb am_C0 tables_1 am_K md_2 q.1 q.2.1 q.2.2.1 q.2.2.2) = true := by decide +kernel
theorem de_3 : ∀ q ∈ tb_3, decode prog_2_method_3_code q.1 = .ok (q.2.1, q.2.2.1) := by decide +kernel
theorem lb_3 : tb_3.all (fun q => am_lb am_C0 tables_1 am_K md_3 q.1 q.2.1 q.2.2.1 q.2.2.2) = true := by decide +kernel
theorem de_4 : ∀ q ∈ tb_4, decode prog_2_method_4_code q.1 = .ok (q.2.1, q.2.2.1) := by decide +kernel
theorem lb_4 : tb_4.all (fun q => am_lb am_C0 tables_1 am_K md_4 q.1 q.2.1 q.2.2.1 q.2.2.2) = true := by decide +kernel
theorem de_5 : ∀ q ∈ tb_5, decode prog_2_method_5_code q.1 = .ok (q.2.1, q.2.2.1) := by decide +kernel
theorem lb_5 : tb_5.all (fun q => am_lb am_C0 tables_1 am_K md_5 q.1 q.2.1 q.2.2.1 q.2.2.2) = true := by decide +kernel
theorem de_6 : ∀ q ∈ tb_6, decode prog_2_method_6_code q.1 = .ok (q.2.1, q.2.2.1) := by decide +kernel
theorem lb_6 : tb_6.all (fun q => am_lb am_C0 tables_1 am_K md_6 q.1 q.2.1 q.2.2.1 q.2.2.2) = true := by decide +kernel
theorem de_7 : ∀ q ∈ tb_7, decode prog_2_method_7_code q.1 = .ok (q.2.1, q.2.2.1) := by decide +kernel
theorem lb_7 : tb_7.all (fun q => am_lb am_C0 tables_1 am_K md_7 q.1 q.2.1 q.2.2.1 q.2.2.2) = true := by decide +kernel
theorem de_8 : ∀ q ∈ tb_8, decode prog_2_method_8_code q.1 = .ok (q.2.1, q.2.2.1) := by decide +kernel
theorem lb_8 : tb_8.all (fun q => am_lb am_C0 tables_1 am_K md_8 q.1 q.2.1 q.2.2.1 q.2.2.2) = true := by decide +kernel
theorem de_9 : ∀ q ∈ tb_9, decode prog_2_method_9_code q.1 = .ok (q.2.1, q.2.2.1) := by decide +kernel
theorem lb_9 : tb_9.all (fun q => am_lb am_C0 tables_1 am_K md_9 q.1 q.2.1 q.2.2.1 q.2.2.2) = true := by decide +kernel
theorem de_10 : ∀ q ∈ tb_10, decode prog_2_method_10_code q.1 = .ok (q.2.1, q.2.2.1) := by decide +kernel
theorem lb_10 : tb_10.all (fun q => am_lb am_C0 tables_1 am_K md_10 q.1 q.2.1 q.2.2.1 q.2.2.2) = true := by decide +kernel
theorem de_11 : ∀ q ∈ tb_11, decode prog_2_method_11_code q.1 = .ok (q.2.1, q.2.2.1) := by decide +kernel
theorem lb_11 : tb_11.all (fun q => am_lb am_C0 tables_1 am_K md_11 q.1 q.2.1 q.2.2.1 q.2.2.2) = true := by decide +kernel
theorem de_12 : ∀ q ∈ tb_12, decode prog_2_method_12_code q.1 = .ok (q.2.1, q.2.2.1) := by decide +kernel
theorem lb_12 : tb_12.all (fun q => am_lb am_C0 tables_1 am_K md_12 q.1 q.2.1 q.2.2.1 q.2.2.2) = true := by decide +kernel
theorem de_13 : ∀ q ∈ tb_13, decode prog_2_method_13_code q.1 = .ok (q.2.1, q.2.2.1) := by decide +kernel
theorem lb_13 : tb_13.all (fun q => am_lb am_C0 tables_1 am_K md_13 q.1 q.2.1 q.2.2.1 q.2.2.2) = true := by decide +kernel
theorem de_14 : ∀ q ∈ tb_14, decode prog_2_method_14_code q.1 = .ok (q.2.1, q.2.2.1) := by decide +kernel
theorem lb_14 : tb_14.all (fun q => am_lb am_C0 tables_1 am_K md_14 q.1 q.2.1 q.2.2.1 q.2.2.2) = true := by decide +kernel
theorem de_15 : ∀ q ∈ tb_15, decode prog_2_method_15_code q.1 = .ok (q.2.1, q.2.2.1) := by decide +kernel
theorem lb_15 : tb_15.all (fun q => am_lb am_C0 tables_1 am_K md_15 q.1 q.2.1 q.2.2.1 q.2.2.2) = true := by decide +kernel
theorem de_16 : ∀ q ∈ tb_16, decode prog_2_method_16_code q.1 = .ok (q.2.1, q.2.2.1) := by decide +kernel
theorem lb_16 : tb_16.all (fun q => am_lb am_C0 tables_1 am_K md_16 q.1 q.2.1 q.2.2.1 q.2.2.2) = true := by decide +kernel
theorem de_17 : ∀ q ∈ tb_17, decode prog_2_method_17_code q.1 = .ok (q.2.1, q.2.2.1) := by decide +kernel
theorem lb_17 : tb_17.all (fun q => am_lb am_C0 tables_1 am_K md_17 q.1 q.2.1 q.2.2.1 q.2.2.2) = true := by decide +kernel
theorem de_18 : ∀ q ∈ tb_18, decode prog_2_method_18_code q.1 = .ok (q.2.1, q.2.2.1) := by decide +kernel
theorem lb_18 : tb_18.all (fun q => am_lb am_C0 tables_1 am_K md_18 q.1 q.2.1 q.2.2.1 q.2.2.2) = true := by decide +kernel
theorem de_19 : ∀ q ∈ tb_19, decode prog_3_method_2_code q.1 = .ok (q.2.1, q.2.2.1) := by decide +kernel
theorem lb_19 : tb_19.all (fun q => am_lb am_C0 tables_1 am_K md_19 q.1 q.2.1 q.2.2.1 q.2.2.2) = true := by decide +kernel
theorem de_20 : ∀ q ∈ tb_20, decode prog_3_method_3_code q.1 = .ok (q.2.1, q.2.2.1) := by decide +kernel
theorem lb_20 : tb_20.all (fun q => am_lb am_C0 tables_1 am_K md_20 q.1 q.2.1 q.2.2.1 q.2.2.2) = true := by decide +kernel
theorem de_21 : ∀ q ∈ tb_21, decode prog_3_method_4_code q.1 = .ok (q.2.1, q.2.2.1) := by decide +kernel
theorem lb_21 : tb_21.all (fun q => am_lb am_C0 tables_1 am_K md_21 q.1 q.2.1 q.2.2.1 q.2.2.2) = true := by decide +kernel
theorem de_22 : ∀ q ∈ tb_22, decode prog_3_method_5_code q.1 = .ok (q.2.1, q.2.2.1) := by decide +kernel
theorem lb_22 : tb_22.all (fun q => am_lb am_C0 tables_1 am_K md_22 q.1 q.2.1 q.2.2.1 q.2.2.2) = true := by decide +kernel
theorem de_23 : ∀ q ∈ tb_23, decode prog_4_method_1_code q.1 = .ok (q.2.1, q.2.2.1) := by decide +kernel
theorem lb_23 : tb_23.all (fun q => am_lb am_C0 tables_1 am_K md_23 q.1 q.2.1 q.2.2.1 q.2.2.2) = true := by decide +kernel
theorem de_24 : ∀ q ∈ tb_24, decode prog_4_method_2_code q.1 = .ok (q.2.1, q.2.2.1) := by decide +kernel
theorem lb_24 : tb_24.all (fun q => am_lb am_C0 tables_1 am_K md_24 q.1 q.2.1 q.2.2.1 q.2.2.2) = true := by decide +kernel
theorem de_25 : ∀ q ∈ tb_25, decode prog_4_method_3_code q.1 = .ok (q.2.1, q.2.2.1) := by decide +kernel
theorem lb_25 : tb_25.all (fun q => am_lb am_C0 tables_1 am_K md_25 q.1 q.2.1 q.2.2.1 q.2.2.2) = true := by decide +kernel
theorem de_26 : ∀ q ∈ tb_26, decode prog_4_method_4_code q.1 = .ok (q.2.1, q.2.2.1) := by decide +kernel
theorem lb_26 : tb_26.all (fun q => am_lb am_C0 tables_1 am_K md_26 q.1 q.2.1 q.2.2.1 q.2.2.2) = true := by decide +kernel
theorem de_27 : ∀ q ∈ tb_27, decode prog_4_method_5_code q.1 = .ok (q.2.1, q.2.2.1) := by decide +kernel
theorem lb_27 : tb_27.all (fun q => am_lb am_C0 tables_1 am_K md_27 q.1 q.2.1 q.2.2.1 q.2.2.2) = true := by decide +kernel
theorem de_28 : ∀ q ∈ tb_28, decode prog_5_method_1_code q.1 = .ok (q.2.1, q.2.2.1) := by decide +kernel
theorem lb_28 : tb_28.all (fun q => am_lb am_C0 tables_1 am_K md_28 q.1 q.2.1 q.2.2.1 q.2.2.2) = true := by decide +kernel
theorem de_29 : ∀ q ∈ tb_29, decode prog_5_method_2_code q.1 = .ok (q.2.1, q.2.2.1) := by decide +kernel
theorem lb_29 : tb_29.all (fun q => am_lb am_C0 tables_1 am_K md_29 q.1 q.2.1 q.2.2.1 q.2.2.2) = true := by decide +kernel
theorem de_30 : ∀ q ∈ tb_30, decode prog_5_method_3_code q.1 = .ok (q.2.1, q.2.2.1) := by decide +kernel
theorem lb_30 : tb_30.all (fun q => am_lb am_C0 tables_1 am_K md_30 q.1 q.2.1 q.2.2.1 q.2.2.2) = true := by decide +kernel
theorem de_31 : ∀ q ∈ tb_31, decode prog_5_method_4_code q.1 = .ok (q.2.1, q.2.2.1) := by decide +kernel
theorem lb_31 : tb_31.all (fun q => am_lb am_C0 tables_1 am_K md_31 q.1 q.2.1 q.2.2.1 q.2.2.2) = true := by decide +kernel
theorem de_32 : ∀ q ∈ tb_32, decode prog_5_method_5_code q.1 = .ok (q.2.1, q.2.2.1) := by decide +kernel
theorem lb_32 : tb_32.all (fun q => am_lb am_C0 tables_1 am_K md_32 q.1 q.2.1 q.2.2.1 q.2.2.2) = true := by decide +kernel
theorem de_33 : ∀ q ∈ tb_33, decode prog_5_method_6_code q.1 = .ok (q.2.1, q.2.2.1) := by decide +kernel
theorem lb_33 : tb_33.all (fun q => am_lb am_C0 tables_1 am_K md_33 q.1 q.2.1 q.2.2.1 q.2.2.2) = true := by decide +kernel
theorem de_34 : ∀ q ∈ tb_34, decode prog_5_method_7_code q.1 = .ok (q.2.1, q.2.2.1) := by decide +kernel
theorem lb_34 : tb_34.all (fun q => am_lb am_C0 tables_1 am_K md_34 q.1 q.2.1 q.2.2.1 q.2.2.2) = true := by decide +kernel
theorem de_35 : ∀ q ∈ tb_35, decode prog_5_method_8_code q.1 = .ok (q.2.1, q.2.2.1) := by decide +kernel
theorem lb_35 : tb_35.all (fun q => am_lb am_C0 tables_1 am_K md_35 q.1 q.2.1 q.2.2.1 q.2.2.2) = true := by decide +kernel
theorem de_36 : ∀ q ∈ tb_36, decode prog_5_method_9_code q.1 = .ok (q.2.1, q.2.2.1) := by decide +kernel
theorem lb_36 : tb_36.all (fun q => am_lb am_C0 tables_1 am_K md_36 q.1 q.2.1 q.2.2.1 q.2.2.2) = true := by decide +kernel
theorem de_37 : ∀ q ∈ tb_37, decode prog_5_method_10_code q.1 = .ok (q.2.1, q.2.2.1) := by decide +kernel
theorem lb_37 : tb_37.all (fun q => am_lb am_C0 tables_1 am_K md_37 q.1 q.2.1 q.2.2.1 q.2.2.2) = true := by decide +kernel
theorem de_38 : ∀ q ∈ tb_38, decode prog_5_method_11_code q.1 = .ok (q.2.1, q.2.2.1) := by decide +kernel
theorem lb_38 : tb_38.all (fun q => am_lb am_C0 tables_1 am_K md_38 q.1 q.2.1 q.2.2.1 q.2.2.2) = true := by decide +kernel
theorem de_39 : ∀ q ∈ tb_39, decode prog_6_method_1_code q.1 = .ok (q.2.1, q.2.2.1) := by decide +kernel
theorem lb_39 : tb_39.all (fun q => am_lb am_C0 tables_1 am_K md_39 q.1 q.2.1 q.2.2.1 q.2.2.2) = true := by decide +kernel
theorem de_40 : ∀ q ∈ tb_40, decode prog_6_method_2_code q.1 = .ok (q.2.1, q.2.2.1) := by decide +kernel
theorem lb_40 : tb_40.all (fun q => am_lb am_C0 tables_1 am_K md_40 q.1 q.2.1 q.2.2.1 q.2.2.2) = true := by decide +kernel
theorem de_41 : ∀ q ∈ tb_41, decode prog_6_method_3_code q.1 = .ok (q.2.1, q.2.2.1) := by decide +kernel
theorem lb_41 : tb_41.all (fun q => am_lb am_C0 tables_1 am_K md_41 q.1 q.2.1 q.2.2.1 q.2.2.2) = true := by decide +kernel
