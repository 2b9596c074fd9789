theorem pg_d80 : ∀ q ∈ pg_L80, decode prog_4_method_4_code q.1 = .ok (q.2.1, q.2.2.1 - q.1) := by decide +kernel
theorem pg_d81 : ∀ q ∈ pg_L81, decode prog_4_method_18_code q.1 = .ok (q.2.1, q.2.2.1 - q.1) := by decide +kernel
theorem pg_d82_0 : ∀ q ∈ (pg_L82.drop 0).take 48, decode prog_4_method_19_code q.1 = .ok (q.2.1, q.2.2.1 - q.1) := by decide +kernel
theorem pg_d82_1 : ∀ q ∈ (pg_L82.drop 48).take 48, decode prog_4_method_19_code q.1 = .ok (q.2.1, q.2.2.1 - q.1) := by decide +kernel
theorem pg_d82 : ∀ q ∈ pg_L82, decode prog_4_method_19_code q.1 = .ok (q.2.1, q.2.2.1 - q.1) := pg_cut 48 2 pg_L82 (by decide +kernel) (by
  intro c hc
  rcases (show c = 0 ∨ c = 1 by omega) with rfl | rfl
  · exact pg_d82_0
  · exact pg_d82_1)
theorem pg_d83_0 : ∀ q ∈ (pg_L83.drop 0).take 48, decode prog_4_method_20_code q.1 = .ok (q.2.1, q.2.2.1 - q.1) := by decide +kernel
theorem pg_d83_1 : ∀ q ∈ (pg_L83.drop 48).take 48, decode prog_4_method_20_code q.1 = .ok (q.2.1, q.2.2.1 - q.1) := by decide +kernel
theorem pg_d83_2 : ∀ q ∈ (pg_L83.drop 96).take 48, decode prog_4_method_20_code q.1 = .ok (q.2.1, q.2.2.1 - q.1) := by decide +kernel
theorem pg_d83 : ∀ q ∈ pg_L83, decode prog_4_method_20_code q.1 = .ok (q.2.1, q.2.2.1 - q.1) := pg_cut 48 3 pg_L83 (by decide +kernel) (by
  intro c hc
  rcases (show c = 0 ∨ c = 1 ∨ c = 2 by omega) with rfl | rfl | rfl
  · exact pg_d83_0
  · exact pg_d83_1
  · exact pg_d83_2)
theorem pg_d84_0 : ∀ q ∈ (pg_L84.drop 0).take 48, decode prog_4_method_12_code q.1 = .ok (q.2.1, q.2.2.1 - q.1) := by decide +kernel
theorem pg_d84_1 : ∀ q ∈ (pg_L84.drop 48).take 48, decode prog_4_method_12_code q.1 = .ok (q.2.1, q.2.2.1 - q.1) := by decide +kernel
theorem pg_d84 : ∀ q ∈ pg_L84, decode prog_4_method_12_code q.1 = .ok (q.2.1, q.2.2.1 - q.1) := pg_cut 48 2 pg_L84 (by decide +kernel) (by
  intro c hc
  rcases (show c = 0 ∨ c = 1 by omega) with rfl | rfl
  · exact pg_d84_0
  · exact pg_d84_1)
theorem pg_d85 : ∀ q ∈ pg_L85, decode prog_4_method_13_code q.1 = .ok (q.2.1, q.2.2.1 - q.1) := by decide +kernel
theorem pg_d86 : ∀ q ∈ pg_L86, decode prog_4_method_11_code q.1 = .ok (q.2.1, q.2.2.1 - q.1) := by decide +kernel
theorem pg_d87 : ∀ q ∈ pg_L87, decode prog_4_method_22_code q.1 = .ok (q.2.1, q.2.2.1 - q.1) := by decide +kernel
theorem pg_d88_0 : ∀ q ∈ (pg_L88.drop 0).take 48, decode prog_4_method_23_code q.1 = .ok (q.2.1, q.2.2.1 - q.1) := by decide +kernel
theorem pg_d88_1 : ∀ q ∈ (pg_L88.drop 48).take 48, decode prog_4_method_23_code q.1 = .ok (q.2.1, q.2.2.1 - q.1) := by decide +kernel
theorem pg_d88 : ∀ q ∈ pg_L88, decode prog_4_method_23_code q.1 = .ok (q.2.1, q.2.2.1 - q.1) := pg_cut 48 2 pg_L88 (by decide +kernel) (by
  intro c hc
  rcases (show c = 0 ∨ c = 1 by omega) with rfl | rfl
  · exact pg_d88_0
  · exact pg_d88_1)
theorem pg_d89_0 : ∀ q ∈ (pg_L89.drop 0).take 48, decode prog_4_method_24_code q.1 = .ok (q.2.1, q.2.2.1 - q.1) := by decide +kernel
theorem pg_d89_1 : ∀ q ∈ (pg_L89.drop 48).take 48, decode prog_4_method_24_code q.1 = .ok (q.2.1, q.2.2.1 - q.1) := by decide +kernel
theorem pg_d89 : ∀ q ∈ pg_L89, decode prog_4_method_24_code q.1 = .ok (q.2.1, q.2.2.1 - q.1) := pg_cut 48 2 pg_L89 (by decide +kernel) (by
  intro c hc
  rcases (show c = 0 ∨ c = 1 by omega) with rfl | rfl
  · exact pg_d89_0
  · exact pg_d89_1)
theorem pg_d90 : ∀ q ∈ pg_L90, decode prog_4_method_5_code q.1 = .ok (q.2.1, q.2.2.1 - q.1) := by decide +kernel
theorem pg_d91 : ∀ q ∈ pg_L91, decode prog_4_method_25_code q.1 = .ok (q.2.1, q.2.2.1 - q.1) := by decide +kernel
theorem pg_d92 : ∀ q ∈ pg_L92, decode prog_4_method_26_code q.1 = .ok (q.2.1, q.2.2.1 - q.1) := by decide +kernel
theorem pg_d93_0 : ∀ q ∈ (pg_L93.drop 0).take 48, decode prog_4_method_27_code q.1 = .ok (q.2.1, q.2.2.1 - q.1) := by decide +kernel
theorem pg_d93_1 : ∀ q ∈ (pg_L93.drop 48).take 48, decode prog_4_method_27_code q.1 = .ok (q.2.1, q.2.2.1 - q.1) := by decide +kernel
theorem pg_d93 : ∀ q ∈ pg_L93, decode prog_4_method_27_code q.1 = .ok (q.2.1, q.2.2.1 - q.1) := pg_cut 48 2 pg_L93 (by decide +kernel) (by
  intro c hc
  rcases (show c = 0 ∨ c = 1 by omega) with rfl | rfl
  · exact pg_d93_0
  · exact pg_d93_1)
theorem pg_d94 : ∀ q ∈ pg_L94, decode prog_4_method_2_code q.1 = .ok (q.2.1, q.2.2.1 - q.1) := by decide +kernel
theorem pg_d95 : ∀ q ∈ pg_L95, decode prog_4_method_28_code q.1 = .ok (q.2.1, q.2.2.1 - q.1) := by decide +kernel
theorem pg_d96_0 : ∀ q ∈ (pg_L96.drop 0).take 48, decode prog_4_method_6_code q.1 = .ok (q.2.1, q.2.2.1 - q.1) := by decide +kernel
theorem pg_d96_1 : ∀ q ∈ (pg_L96.drop 48).take 48, decode prog_4_method_6_code q.1 = .ok (q.2.1, q.2.2.1 - q.1) := by decide +kernel
theorem pg_d96 : ∀ q ∈ pg_L96, decode prog_4_method_6_code q.1 = .ok (q.2.1, q.2.2.1 - q.1) := pg_cut 48 2 pg_L96 (by decide +kernel) (by
  intro c hc
  rcases (show c = 0 ∨ c = 1 by omega) with rfl | rfl
  · exact pg_d96_0
  · exact pg_d96_1)
theorem pg_d97 : ∀ q ∈ pg_L97, decode prog_4_method_7_code q.1 = .ok (q.2.1, q.2.2.1 - q.1) := by decide +kernel
theorem pg_d98_0 : ∀ q ∈ (pg_L98.drop 0).take 48, decode prog_4_method_29_code q.1 = .ok (q.2.1, q.2.2.1 - q.1) := by decide +kernel
theorem pg_d98_1 : ∀ q ∈ (pg_L98.drop 48).take 48, decode prog_4_method_29_code q.1 = .ok (q.2.1, q.2.2.1 - q.1) := by decide +kernel
theorem pg_d98_2 : ∀ q ∈ (pg_L98.drop 96).take 48, decode prog_4_method_29_code q.1 = .ok (q.2.1, q.2.2.1 - q.1) := by decide +kernel
theorem pg_d98 : ∀ q ∈ pg_L98, decode prog_4_method_29_code q.1 = .ok (q.2.1, q.2.2.1 - q.1) := pg_cut 48 3 pg_L98 (by decide +kernel) (by
  intro c hc
  rcases (show c = 0 ∨ c = 1 ∨ c = 2 by omega) with rfl | rfl | rfl
  · exact pg_d98_0
  · exact pg_d98_1
  · exact pg_d98_2)
theorem pg_d99 : ∀ q ∈ pg_L99, decode prog_4_method_8_code q.1 = .ok (q.2.1, q.2.2.1 - q.1) := by decide +kernel
theorem pg_d100 : ∀ q ∈ pg_L100, decode prog_5_method_1_code q.1 = .ok (q.2.1, q.2.2.1 - q.1) := by decide +kernel
theorem pg_d101 : ∀ q ∈ pg_L101, decode prog_5_method_10_code q.1 = .ok (q.2.1, q.2.2.1 - q.1) := by decide +kernel
theorem pg_d102 : ∀ q ∈ pg_L102, decode prog_5_method_9_code q.1 = .ok (q.2.1, q.2.2.1 - q.1) := by decide +kernel
theorem pg_d103 : ∀ q ∈ pg_L103, decode prog_5_method_7_code q.1 = .ok (q.2.1, q.2.2.1 - q.1) := by decide +kernel
theorem pg_d104_0 : ∀ q ∈ (pg_L104.drop 0).take 48, decode prog_5_method_6_code q.1 = .ok (q.2.1, q.2.2.1 - q.1) := by decide +kernel
theorem pg_d104_1 : ∀ q ∈ (pg_L104.drop 48).take 48, decode prog_5_method_6_code q.1 = .ok (q.2.1, q.2.2.1 - q.1) := by decide +kernel
theorem pg_d104 : ∀ q ∈ pg_L104, decode prog_5_method_6_code q.1 = .ok (q.2.1, q.2.2.1 - q.1) := pg_cut 48 2 pg_L104 (by decide +kernel) (by
  intro c hc
  rcases (show c = 0 ∨ c = 1 by omega) with rfl | rfl
  · exact pg_d104_0
  · exact pg_d104_1)
theorem pg_d105 : ∀ q ∈ pg_L105, decode prog_5_method_8_code q.1 = .ok (q.2.1, q.2.2.1 - q.1) := by decide +kernel
theorem pg_d106_0 : ∀ q ∈ (pg_L106.drop 0).take 48, decode prog_5_method_2_code q.1 = .ok (q.2.1, q.2.2.1 - q.1) := by decide +kernel
theorem pg_d106_1 : ∀ q ∈ (pg_L106.drop 48).take 48, decode prog_5_method_2_code q.1 = .ok (q.2.1, q.2.2.1 - q.1) := by decide +kernel
theorem pg_d106_2 : ∀ q ∈ (pg_L106.drop 96).take 48, decode prog_5_method_2_code q.1 = .ok (q.2.1, q.2.2.1 - q.1) := by decide +kernel
theorem pg_d106_3 : ∀ q ∈ (pg_L106.drop 144).take 48, decode prog_5_method_2_code q.1 = .ok (q.2.1, q.2.2.1 - q.1) := by decide +kernel
theorem pg_d106 : ∀ q ∈ pg_L106, decode prog_5_method_2_code q.1 = .ok (q.2.1, q.2.2.1 - q.1) := pg_cut 48 4 pg_L106 (by decide +kernel) (by
  intro c hc
  rcases (show c = 0 ∨ c = 1 ∨ c = 2 ∨ c = 3 by omega) with rfl | rfl | rfl | rfl
  · exact pg_d106_0
  · exact pg_d106_1
  · exact pg_d106_2
  · exact pg_d106_3)
theorem pg_d107_0 : ∀ q ∈ (pg_L107.drop 0).take 48, decode prog_5_method_3_code q.1 = .ok (q.2.1, q.2.2.1 - q.1) := by decide +kernel
theorem pg_d107_1 : ∀ q ∈ (pg_L107.drop 48).take 48, decode prog_5_method_3_code q.1 = .ok (q.2.1, q.2.2.1 - q.1) := by decide +kernel
theorem pg_d107 : ∀ q ∈ pg_L107, decode prog_5_method_3_code q.1 = .ok (q.2.1, q.2.2.1 - q.1) := pg_cut 48 2 pg_L107 (by decide +kernel) (by
  intro c hc
  rcases (show c = 0 ∨ c = 1 by omega) with rfl | rfl
  · exact pg_d107_0
  · exact pg_d107_1)
theorem pg_d108_0 : ∀ q ∈ (pg_L108.drop 0).take 48, decode prog_5_method_4_code q.1 = .ok (q.2.1, q.2.2.1 - q.1) := by decide +kernel
theorem pg_d108_1 : ∀ q ∈ (pg_L108.drop 48).take 48, decode prog_5_method_4_code q.1 = .ok (q.2.1, q.2.2.1 - q.1) := by decide +kernel
theorem pg_d108_2 : ∀ q ∈ (pg_L108.drop 96).take 48, decode prog_5_method_4_code q.1 = .ok (q.2.1, q.2.2.1 - q.1) := by decide +kernel
theorem pg_d108_3 : ∀ q ∈ (pg_L108.drop 144).take 48, decode prog_5_method_4_code q.1 = .ok (q.2.1, q.2.2.1 - q.1) := by decide +kernel
theorem pg_d108 : ∀ q ∈ pg_L108, decode prog_5_method_4_code q.1 = .ok (q.2.1, q.2.2.1 - q.1) := pg_cut 48 4 pg_L108 (by decide +kernel) (by
  intro c hc
  rcases (show c = 0 ∨ c = 1 ∨ c = 2 ∨ c = 3 by omega) with rfl | rfl | rfl | rfl
  · exact pg_d108_0
  · exact pg_d108_1
  · exact pg_d108_2
  · exact pg_d108_3)
theorem pg_d109_0 : ∀ q ∈ (pg_L109.drop 0).take 48, decode prog_5_method_5_code q.1 = .ok (q.2.1, q.2.2.1 - q.1) := by decide +kernel
theorem pg_d109_1 : ∀ q ∈ (pg_L109.drop 48).take 48, decode prog_5_method_5_code q.1 = .ok (q.2.1, q.2.2.1 - q.1) := by decide +kernel
theorem pg_d109_2 : ∀ q ∈ (pg_L109.drop 96).take 48, decode prog_5_method_5_code q.1 = .ok (q.2.1, q.2.2.1 - q.1) := by decide +kernel
theorem pg_d109_3 : ∀ q ∈ (pg_L109.drop 144).take 48, decode prog_5_method_5_code q.1 = .ok (q.2.1, q.2.2.1 - q.1) := by decide +kernel
theorem pg_d109_4 : ∀ q ∈ (pg_L109.drop 192).take 48, decode prog_5_method_5_code q.1 = .ok (q.2.1, q.2.2.1 - q.1) := by decide +kernel
theorem pg_d109 : ∀ q ∈ pg_L109, decode prog_5_method_5_code q.1 = .ok (q.2.1, q.2.2.1 - q.1) := pg_cut 48 5 pg_L109 (by decide +kernel) (by
  intro c hc
  rcases (show c = 0 ∨ c = 1 ∨ c = 2 ∨ c = 3 ∨ c = 4 by omega) with rfl | rfl | rfl | rfl | rfl
  · exact pg_d109_0
  · exact pg_d109_1
  · exact pg_d109_2
  · exact pg_d109_3
  · exact pg_d109_4)
theorem pg_d110 : ∀ q ∈ pg_L110, decode prog_5_method_11_code q.1 = .ok (q.2.1, q.2.2.1 - q.1) := by decide +kernel
theorem pg_d111 : ∀ q ∈ pg_L111, decode prog_5_method_12_code q.1 = .ok (q.2.1, q.2.2.1 - q.1) := by decide +kernel
theorem pg_d112 : ∀ q ∈ pg_L112, decode prog_6_method_1_code q.1 = .ok (q.2.1, q.2.2.1 - q.1) := by decide +kernel
theorem pg_d113 : ∀ q ∈ pg_L113, decode prog_6_method_5_code q.1 = .ok (q.2.1, q.2.2.1 - q.1) := by decide +kernel
theorem pg_d114 : ∀ q ∈ pg_L114, decode prog_6_method_2_code q.1 = .ok (q.2.1, q.2.2.1 - q.1) := by decide +kernel
theorem pg_d115 : ∀ q ∈ pg_L115, decode prog_6_method_3_code q.1 = .ok (q.2.1, q.2.2.1 - q.1) := by decide +kernel
theorem pg_d116_0 : ∀ q ∈ (pg_L116.drop 0).take 48, decode prog_6_method_6_code q.1 = .ok (q.2.1, q.2.2.1 - q.1) := by decide +kernel
theorem pg_d116_1 : ∀ q ∈ (pg_L116.drop 48).take 48, decode prog_6_method_6_code q.1 = .ok (q.2.1, q.2.2.1 - q.1) := by decide +kernel
theorem pg_d116 : ∀ q ∈ pg_L116, decode prog_6_method_6_code q.1 = .ok (q.2.1, q.2.2.1 - q.1) := pg_cut 48 2 pg_L116 (by decide +kernel) (by
  intro c hc
  rcases (show c = 0 ∨ c = 1 by omega) with rfl | rfl
  · exact pg_d116_0
  · exact pg_d116_1)
theorem pg_d117 : ∀ q ∈ pg_L117, decode prog_6_method_4_code q.1 = .ok (q.2.1, q.2.2.1 - q.1) := by decide +kernel
theorem pg_d118 : ∀ q ∈ pg_L118, decode prog_6_method_8_code q.1 = .ok (q.2.1, q.2.2.1 - q.1) := by decide +kernel
theorem pg_d119 : ∀ q ∈ pg_L119, decode prog_6_method_9_code q.1 = .ok (q.2.1, q.2.2.1 - q.1) := by decide +kernel
theorem pg_d120 : ∀ q ∈ pg_L120, decode prog_6_method_7_code q.1 = .ok (q.2.1, q.2.2.1 - q.1) := by decide +kernel
theorem pg_d121 : ∀ q ∈ pg_L121, decode prog_7_method_1_code q.1 = .ok (q.2.1, q.2.2.1 - q.1) := by decide +kernel
theorem pg_d122 : ∀ q ∈ pg_L122, decode prog_7_method_2_code q.1 = .ok (q.2.1, q.2.2.1 - q.1) := by decide +kernel
theorem pg_d123 : ∀ q ∈ pg_L123, decode prog_7_method_4_code q.1 = .ok (q.2.1, q.2.2.1 - q.1) := by decide +kernel
theorem pg_d124 : ∀ q ∈ pg_L124, decode prog_7_method_3_code q.1 = .ok (q.2.1, q.2.2.1 - q.1) := by decide +kernel
theorem pg_d125 : ∀ q ∈ pg_L125, decode prog_8_method_1_code q.1 = .ok (q.2.1, q.2.2.1 - q.1) := by decide +kernel
theorem pg_d126 : ∀ q ∈ pg_L126, decode prog_8_method_12_code q.1 = .ok (q.2.1, q.2.2.1 - q.1) := by decide +kernel
theorem pg_d127 : ∀ q ∈ pg_L127, decode prog_8_method_8_code q.1 = .ok (q.2.1, q.2.2.1 - q.1) := by decide +kernel
theorem pg_d128_0 : ∀ q ∈ (pg_L128.drop 0).take 48, decode prog_8_method_3_code q.1 = .ok (q.2.1, q.2.2.1 - q.1) := by decide +kernel
theorem pg_d128_1 : ∀ q ∈ (pg_L128.drop 48).take 48, decode prog_8_method_3_code q.1 = .ok (q.2.1, q.2.2.1 - q.1) := by decide +kernel
theorem pg_d128 : ∀ q ∈ pg_L128, decode prog_8_method_3_code q.1 = .ok (q.2.1, q.2.2.1 - q.1) := pg_cut 48 2 pg_L128 (by decide +kernel) (by
  intro c hc
  rcases (show c = 0 ∨ c = 1 by omega) with rfl | rfl
  · exact pg_d128_0
  · exact pg_d128_1)
theorem pg_d129 : ∀ q ∈ pg_L129, decode prog_8_method_11_code q.1 = .ok (q.2.1, q.2.2.1 - q.1) := by decide +kernel
theorem pg_d130 : ∀ q ∈ pg_L130, decode prog_8_method_7_code q.1 = .ok (q.2.1, q.2.2.1 - q.1) := by decide +kernel
theorem pg_d131 : ∀ q ∈ pg_L131, decode prog_8_method_34_code q.1 = .ok (q.2.1, q.2.2.1 - q.1) := by decide +kernel
theorem pg_d132 : ∀ q ∈ pg_L132, decode prog_8_method_15_code q.1 = .ok (q.2.1, q.2.2.1 - q.1) := by decide +kernel
theorem pg_d133 : ∀ q ∈ pg_L133, decode prog_8_method_20_code q.1 = .ok (q.2.1, q.2.2.1 - q.1) := by decide +kernel
theorem pg_d134 : ∀ q ∈ pg_L134, decode prog_8_method_5_code q.1 = .ok (q.2.1, q.2.2.1 - q.1) := by decide +kernel
theorem pg_d135 : ∀ q ∈ pg_L135, decode prog_8_method_10_code q.1 = .ok (q.2.1, q.2.2.1 - q.1) := by decide +kernel
theorem pg_d136 : ∀ q ∈ pg_L136, decode prog_8_method_17_code q.1 = .ok (q.2.1, q.2.2.1 - q.1) := by decide +kernel
theorem pg_d137 : ∀ q ∈ pg_L137, decode prog_8_method_19_code q.1 = .ok (q.2.1, q.2.2.1 - q.1) := by decide +kernel
theorem pg_d138 : ∀ q ∈ pg_L138, decode prog_8_method_13_code q.1 = .ok (q.2.1, q.2.2.1 - q.1) := by decide +kernel
theorem pg_d139 : ∀ q ∈ pg_L139, decode prog_8_method_14_code q.1 = .ok (q.2.1, q.2.2.1 - q.1) := by decide +kernel
theorem pg_d140 : ∀ q ∈ pg_L140, decode prog_8_method_18_code q.1 = .ok (q.2.1, q.2.2.1 - q.1) := by decide +kernel
theorem pg_d141 : ∀ q ∈ pg_L141, decode prog_8_method_16_code q.1 = .ok (q.2.1, q.2.2.1 - q.1) := by decide +kernel
theorem pg_d142 : ∀ q ∈ pg_L142, decode prog_8_method_6_code q.1 = .ok (q.2.1, q.2.2.1 - q.1) := by decide +kernel
theorem pg_d143 : ∀ q ∈ pg_L143, decode prog_8_method_2_code q.1 = .ok (q.2.1, q.2.2.1 - q.1) := by decide +kernel
theorem pg_d144_0 : ∀ q ∈ (pg_L144.drop 0).take 48, decode prog_8_method_21_code q.1 = .ok (q.2.1, q.2.2.1 - q.1) := by decide +kernel
theorem pg_d144_1 : ∀ q ∈ (pg_L144.drop 48).take 48, decode prog_8_method_21_code q.1 = .ok (q.2.1, q.2.2.1 - q.1) := by decide +kernel
theorem pg_d144 : ∀ q ∈ pg_L144, decode prog_8_method_21_code q.1 = .ok (q.2.1, q.2.2.1 - q.1) := pg_cut 48 2 pg_L144 (by decide +kernel) (by
  intro c hc
  rcases (show c = 0 ∨ c = 1 by omega) with rfl | rfl
  · exact pg_d144_0
  · exact pg_d144_1)
theorem pg_d145_0 : ∀ q ∈ (pg_L145.drop 0).take 48, decode prog_8_method_22_code q.1 = .ok (q.2.1, q.2.2.1 - q.1) := by decide +kernel
theorem pg_d145_1 : ∀ q ∈ (pg_L145.drop 48).take 48, decode prog_8_method_22_code q.1 = .ok (q.2.1, q.2.2.1 - q.1) := by decide +kernel
theorem pg_d145 : ∀ q ∈ pg_L145, decode prog_8_method_22_code q.1 = .ok (q.2.1, q.2.2.1 - q.1) := pg_cut 48 2 pg_L145 (by decide +kernel) (by
  intro c hc
  rcases (show c = 0 ∨ c = 1 by omega) with rfl | rfl
  · exact pg_d145_0
  · exact pg_d145_1)
theorem pg_d146 : ∀ q ∈ pg_L146, decode prog_8_method_23_code q.1 = .ok (q.2.1, q.2.2.1 - q.1) := by decide +kernel
theorem pg_d147 : ∀ q ∈ pg_L147, decode prog_8_method_4_code q.1 = .ok (q.2.1, q.2.2.1 - q.1) := by decide +kernel
theorem pg_d148_0 : ∀ q ∈ (pg_L148.drop 0).take 48, decode prog_8_method_24_code q.1 = .ok (q.2.1, q.2.2.1 - q.1) := by decide +kernel
theorem pg_d148_1 : ∀ q ∈ (pg_L148.drop 48).take 48, decode prog_8_method_24_code q.1 = .ok (q.2.1, q.2.2.1 - q.1) := by decide +kernel
theorem pg_d148 : ∀ q ∈ pg_L148, decode prog_8_method_24_code q.1 = .ok (q.2.1, q.2.2.1 - q.1) := pg_cut 48 2 pg_L148 (by decide +kernel) (by
  intro c hc
  rcases (show c = 0 ∨ c = 1 by omega) with rfl | rfl
  · exact pg_d148_0
  · exact pg_d148_1)
theorem pg_d149_0 : ∀ q ∈ (pg_L149.drop 0).take 48, decode prog_8_method_25_code q.1 = .ok (q.2.1, q.2.2.1 - q.1) := by decide +kernel
theorem pg_d149_1 : ∀ q ∈ (pg_L149.drop 48).take 48, decode prog_8_method_25_code q.1 = .ok (q.2.1, q.2.2.1 - q.1) := by decide +kernel
theorem pg_d149 : ∀ q ∈ pg_L149, decode prog_8_method_25_code q.1 = .ok (q.2.1, q.2.2.1 - q.1) := pg_cut 48 2 pg_L149 (by decide +kernel) (by
  intro c hc
  rcases (show c = 0 ∨ c = 1 by omega) with rfl | rfl
  · exact pg_d149_0
  · exact pg_d149_1)
theorem pg_d150_0 : ∀ q ∈ (pg_L150.drop 0).take 48, decode prog_8_method_26_code q.1 = .ok (q.2.1, q.2.2.1 - q.1) := by decide +kernel
theorem pg_d150_1 : ∀ q ∈ (pg_L150.drop 48).take 48, decode prog_8_method_26_code q.1 = .ok (q.2.1, q.2.2.1 - q.1) := by decide +kernel
theorem pg_d150 : ∀ q ∈ pg_L150, decode prog_8_method_26_code q.1 = .ok (q.2.1, q.2.2.1 - q.1) := pg_cut 48 2 pg_L150 (by decide +kernel) (by
  intro c hc
  rcases (show c = 0 ∨ c = 1 by omega) with rfl | rfl
  · exact pg_d150_0
  · exact pg_d150_1)
theorem pg_d151 : ∀ q ∈ pg_L151, decode prog_8_method_9_code q.1 = .ok (q.2.1, q.2.2.1 - q.1) := by decide +kernel
theorem pg_d152_0 : ∀ q ∈ (pg_L152.drop 0).take 48, decode prog_8_method_27_code q.1 = .ok (q.2.1, q.2.2.1 - q.1) := by decide +kernel
theorem pg_d152_1 : ∀ q ∈ (pg_L152.drop 48).take 48, decode prog_8_method_27_code q.1 = .ok (q.2.1, q.2.2.1 - q.1) := by decide +kernel
theorem pg_d152 : ∀ q ∈ pg_L152, decode prog_8_method_27_code q.1 = .ok (q.2.1, q.2.2.1 - q.1) := pg_cut 48 2 pg_L152 (by decide +kernel) (by
  intro c hc
  rcases (show c = 0 ∨ c = 1 by omega) with rfl | rfl
  · exact pg_d152_0
  · exact pg_d152_1)
theorem pg_d153 : ∀ q ∈ pg_L153, decode prog_8_method_28_code q.1 = .ok (q.2.1, q.2.2.1 - q.1) := by decide +kernel
theorem pg_d154_0 : ∀ q ∈ (pg_L154.drop 0).take 48, decode prog_8_method_29_code q.1 = .ok (q.2.1, q.2.2.1 - q.1) := by decide +kernel
theorem pg_d154_1 : ∀ q ∈ (pg_L154.drop 48).take 48, decode prog_8_method_29_code q.1 = .ok (q.2.1, q.2.2.1 - q.1) := by decide +kernel
theorem pg_d154 : ∀ q ∈ pg_L154, decode prog_8_method_29_code q.1 = .ok (q.2.1, q.2.2.1 - q.1) := pg_cut 48 2 pg_L154 (by decide +kernel) (by
  intro c hc
  rcases (show c = 0 ∨ c = 1 by omega) with rfl | rfl
  · exact pg_d154_0
  · exact pg_d154_1)
theorem pg_d155_0 : ∀ q ∈ (pg_L155.drop 0).take 48, decode prog_8_method_30_code q.1 = .ok (q.2.1, q.2.2.1 - q.1) := by decide +kernel
theorem pg_d155_1 : ∀ q ∈ (pg_L155.drop 48).take 48, decode prog_8_method_30_code q.1 = .ok (q.2.1, q.2.2.1 - q.1) := by decide +kernel
theorem pg_d155 : ∀ q ∈ pg_L155, decode prog_8_method_30_code q.1 = .ok (q.2.1, q.2.2.1 - q.1) := pg_cut 48 2 pg_L155 (by decide +kernel) (by
  intro c hc
  rcases (show c = 0 ∨ c = 1 by omega) with rfl | rfl
  · exact pg_d155_0
  · exact pg_d155_1)
theorem pg_d156_0 : ∀ q ∈ (pg_L156.drop 0).take 48, decode prog_8_method_31_code q.1 = .ok (q.2.1, q.2.2.1 - q.1) := by decide +kernel
theorem pg_d156_1 : ∀ q ∈ (pg_L156.drop 48).take 48, decode prog_8_method_31_code q.1 = .ok (q.2.1, q.2.2.1 - q.1) := by decide +kernel
theorem pg_d156_2 : ∀ q ∈ (pg_L156.drop 96).take 48, decode prog_8_method_31_code q.1 = .ok (q.2.1, q.2.2.1 - q.1) := by decide +kernel
theorem pg_d156 : ∀ q ∈ pg_L156, decode prog_8_method_31_code q.1 = .ok (q.2.1, q.2.2.1 - q.1) := pg_cut 48 3 pg_L156 (by decide +kernel) (by
  intro c hc
  rcases (show c = 0 ∨ c = 1 ∨ c = 2 by omega) with rfl | rfl | rfl
  · exact pg_d156_0
  · exact pg_d156_1
  · exact pg_d156_2)
theorem pg_d157_0 : ∀ q ∈ (pg_L157.drop 0).take 48, decode prog_8_method_32_code q.1 = .ok (q.2.1, q.2.2.1 - q.1) := by decide +kernel
theorem pg_d157_1 : ∀ q ∈ (pg_L157.drop 48).take 48, decode prog_8_method_32_code q.1 = .ok (q.2.1, q.2.2.1 - q.1) := by decide +kernel
theorem pg_d157 : ∀ q ∈ pg_L157, decode prog_8_method_32_code q.1 = .ok (q.2.1, q.2.2.1 - q.1) := pg_cut 48 2 pg_L157 (by decide +kernel) (by
  intro c hc
  rcases (show c = 0 ∨ c = 1 by omega) with rfl | rfl
  · exact pg_d157_0
  · exact pg_d157_1)
theorem pg_d158 : ∀ q ∈ pg_L158, decode prog_8_method_33_code q.1 = .ok (q.2.1, q.2.2.1 - q.1) := by decide +kernel
theorem pg_d159 : ∀ q ∈ pg_L159, decode prog_9_method_1_code q.1 = .ok (q.2.1, q.2.2.1 - q.1) := by decide +kernel
