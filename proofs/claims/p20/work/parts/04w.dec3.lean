theorem pg_d240_0 : ∀ q ∈ (pg_L240.drop 0).take 48, decode prog_14_method_39_code q.1 = .ok (q.2.1, q.2.2.1 - q.1) := by decide +kernel
theorem pg_d240_1 : ∀ q ∈ (pg_L240.drop 48).take 48, decode prog_14_method_39_code q.1 = .ok (q.2.1, q.2.2.1 - q.1) := by decide +kernel
theorem pg_d240 : ∀ q ∈ pg_L240, decode prog_14_method_39_code q.1 = .ok (q.2.1, q.2.2.1 - q.1) := pg_cut 48 2 pg_L240 (by decide +kernel) (by
  intro c hc
  rcases (show c = 0 ∨ c = 1 by omega) with rfl | rfl
  · exact pg_d240_0
  · exact pg_d240_1)
theorem pg_d241 : ∀ q ∈ pg_L241, decode prog_14_method_35_code q.1 = .ok (q.2.1, q.2.2.1 - q.1) := by decide +kernel
theorem pg_d242 : ∀ q ∈ pg_L242, decode prog_14_method_13_code q.1 = .ok (q.2.1, q.2.2.1 - q.1) := by decide +kernel
theorem pg_d243 : ∀ q ∈ pg_L243, decode prog_14_method_36_code q.1 = .ok (q.2.1, q.2.2.1 - q.1) := by decide +kernel
theorem pg_d244_0 : ∀ q ∈ (pg_L244.drop 0).take 48, decode prog_14_method_38_code q.1 = .ok (q.2.1, q.2.2.1 - q.1) := by decide +kernel
theorem pg_d244_1 : ∀ q ∈ (pg_L244.drop 48).take 48, decode prog_14_method_38_code q.1 = .ok (q.2.1, q.2.2.1 - q.1) := by decide +kernel
theorem pg_d244_2 : ∀ q ∈ (pg_L244.drop 96).take 48, decode prog_14_method_38_code q.1 = .ok (q.2.1, q.2.2.1 - q.1) := by decide +kernel
theorem pg_d244_3 : ∀ q ∈ (pg_L244.drop 144).take 48, decode prog_14_method_38_code q.1 = .ok (q.2.1, q.2.2.1 - q.1) := by decide +kernel
theorem pg_d244 : ∀ q ∈ pg_L244, decode prog_14_method_38_code q.1 = .ok (q.2.1, q.2.2.1 - q.1) := pg_cut 48 4 pg_L244 (by decide +kernel) (by
  intro c hc
  rcases (show c = 0 ∨ c = 1 ∨ c = 2 ∨ c = 3 by omega) with rfl | rfl | rfl | rfl
  · exact pg_d244_0
  · exact pg_d244_1
  · exact pg_d244_2
  · exact pg_d244_3)
theorem pg_d245 : ∀ q ∈ pg_L245, decode prog_14_method_37_code q.1 = .ok (q.2.1, q.2.2.1 - q.1) := by decide +kernel
theorem pg_d246 : ∀ q ∈ pg_L246, decode prog_14_method_34_code q.1 = .ok (q.2.1, q.2.2.1 - q.1) := by decide +kernel
theorem pg_d247 : ∀ q ∈ pg_L247, decode prog_14_method_33_code q.1 = .ok (q.2.1, q.2.2.1 - q.1) := by decide +kernel
theorem pg_d248 : ∀ q ∈ pg_L248, decode prog_14_method_43_code q.1 = .ok (q.2.1, q.2.2.1 - q.1) := by decide +kernel
theorem pg_d249 : ∀ q ∈ pg_L249, decode prog_14_method_40_code q.1 = .ok (q.2.1, q.2.2.1 - q.1) := by decide +kernel
theorem pg_d250_0 : ∀ q ∈ (pg_L250.drop 0).take 48, decode prog_14_method_42_code q.1 = .ok (q.2.1, q.2.2.1 - q.1) := by decide +kernel
theorem pg_d250_1 : ∀ q ∈ (pg_L250.drop 48).take 48, decode prog_14_method_42_code q.1 = .ok (q.2.1, q.2.2.1 - q.1) := by decide +kernel
theorem pg_d250_2 : ∀ q ∈ (pg_L250.drop 96).take 48, decode prog_14_method_42_code q.1 = .ok (q.2.1, q.2.2.1 - q.1) := by decide +kernel
theorem pg_d250 : ∀ q ∈ pg_L250, decode prog_14_method_42_code q.1 = .ok (q.2.1, q.2.2.1 - q.1) := pg_cut 48 3 pg_L250 (by decide +kernel) (by
  intro c hc
  rcases (show c = 0 ∨ c = 1 ∨ c = 2 by omega) with rfl | rfl | rfl
  · exact pg_d250_0
  · exact pg_d250_1
  · exact pg_d250_2)
theorem pg_d251 : ∀ q ∈ pg_L251, decode prog_14_method_41_code q.1 = .ok (q.2.1, q.2.2.1 - q.1) := by decide +kernel
theorem pg_d252_0 : ∀ q ∈ (pg_L252.drop 0).take 48, decode prog_14_method_45_code q.1 = .ok (q.2.1, q.2.2.1 - q.1) := by decide +kernel
theorem pg_d252_1 : ∀ q ∈ (pg_L252.drop 48).take 48, decode prog_14_method_45_code q.1 = .ok (q.2.1, q.2.2.1 - q.1) := by decide +kernel
theorem pg_d252_2 : ∀ q ∈ (pg_L252.drop 96).take 48, decode prog_14_method_45_code q.1 = .ok (q.2.1, q.2.2.1 - q.1) := by decide +kernel
theorem pg_d252_3 : ∀ q ∈ (pg_L252.drop 144).take 48, decode prog_14_method_45_code q.1 = .ok (q.2.1, q.2.2.1 - q.1) := by decide +kernel
theorem pg_d252_4 : ∀ q ∈ (pg_L252.drop 192).take 48, decode prog_14_method_45_code q.1 = .ok (q.2.1, q.2.2.1 - q.1) := by decide +kernel
theorem pg_d252 : ∀ q ∈ pg_L252, decode prog_14_method_45_code q.1 = .ok (q.2.1, q.2.2.1 - q.1) := pg_cut 48 5 pg_L252 (by decide +kernel) (by
  intro c hc
  rcases (show c = 0 ∨ c = 1 ∨ c = 2 ∨ c = 3 ∨ c = 4 by omega) with rfl | rfl | rfl | rfl | rfl
  · exact pg_d252_0
  · exact pg_d252_1
  · exact pg_d252_2
  · exact pg_d252_3
  · exact pg_d252_4)
theorem pg_d253 : ∀ q ∈ pg_L253, decode prog_14_method_48_code q.1 = .ok (q.2.1, q.2.2.1 - q.1) := by decide +kernel
theorem pg_d254_0 : ∀ q ∈ (pg_L254.drop 0).take 48, decode prog_14_method_57_code q.1 = .ok (q.2.1, q.2.2.1 - q.1) := by decide +kernel
theorem pg_d254_1 : ∀ q ∈ (pg_L254.drop 48).take 48, decode prog_14_method_57_code q.1 = .ok (q.2.1, q.2.2.1 - q.1) := by decide +kernel
theorem pg_d254 : ∀ q ∈ pg_L254, decode prog_14_method_57_code q.1 = .ok (q.2.1, q.2.2.1 - q.1) := pg_cut 48 2 pg_L254 (by decide +kernel) (by
  intro c hc
  rcases (show c = 0 ∨ c = 1 by omega) with rfl | rfl
  · exact pg_d254_0
  · exact pg_d254_1)
theorem pg_d255 : ∀ q ∈ pg_L255, decode prog_14_method_56_code q.1 = .ok (q.2.1, q.2.2.1 - q.1) := by decide +kernel
theorem pg_d256_0 : ∀ q ∈ (pg_L256.drop 0).take 48, decode prog_14_method_55_code q.1 = .ok (q.2.1, q.2.2.1 - q.1) := by decide +kernel
theorem pg_d256_1 : ∀ q ∈ (pg_L256.drop 48).take 48, decode prog_14_method_55_code q.1 = .ok (q.2.1, q.2.2.1 - q.1) := by decide +kernel
theorem pg_d256 : ∀ q ∈ pg_L256, decode prog_14_method_55_code q.1 = .ok (q.2.1, q.2.2.1 - q.1) := pg_cut 48 2 pg_L256 (by decide +kernel) (by
  intro c hc
  rcases (show c = 0 ∨ c = 1 by omega) with rfl | rfl
  · exact pg_d256_0
  · exact pg_d256_1)
theorem pg_d257_0 : ∀ q ∈ (pg_L257.drop 0).take 48, decode prog_14_method_58_code q.1 = .ok (q.2.1, q.2.2.1 - q.1) := by decide +kernel
theorem pg_d257_1 : ∀ q ∈ (pg_L257.drop 48).take 48, decode prog_14_method_58_code q.1 = .ok (q.2.1, q.2.2.1 - q.1) := by decide +kernel
theorem pg_d257 : ∀ q ∈ pg_L257, decode prog_14_method_58_code q.1 = .ok (q.2.1, q.2.2.1 - q.1) := pg_cut 48 2 pg_L257 (by decide +kernel) (by
  intro c hc
  rcases (show c = 0 ∨ c = 1 by omega) with rfl | rfl
  · exact pg_d257_0
  · exact pg_d257_1)
theorem pg_d258 : ∀ q ∈ pg_L258, decode prog_14_method_59_code q.1 = .ok (q.2.1, q.2.2.1 - q.1) := by decide +kernel
theorem pg_d259_0 : ∀ q ∈ (pg_L259.drop 0).take 48, decode prog_14_method_115_code q.1 = .ok (q.2.1, q.2.2.1 - q.1) := by decide +kernel
theorem pg_d259_1 : ∀ q ∈ (pg_L259.drop 48).take 48, decode prog_14_method_115_code q.1 = .ok (q.2.1, q.2.2.1 - q.1) := by decide +kernel
theorem pg_d259_2 : ∀ q ∈ (pg_L259.drop 96).take 48, decode prog_14_method_115_code q.1 = .ok (q.2.1, q.2.2.1 - q.1) := by decide +kernel
theorem pg_d259 : ∀ q ∈ pg_L259, decode prog_14_method_115_code q.1 = .ok (q.2.1, q.2.2.1 - q.1) := pg_cut 48 3 pg_L259 (by decide +kernel) (by
  intro c hc
  rcases (show c = 0 ∨ c = 1 ∨ c = 2 by omega) with rfl | rfl | rfl
  · exact pg_d259_0
  · exact pg_d259_1
  · exact pg_d259_2)
theorem pg_d260_0 : ∀ q ∈ (pg_L260.drop 0).take 48, decode prog_14_method_53_code q.1 = .ok (q.2.1, q.2.2.1 - q.1) := by decide +kernel
theorem pg_d260_1 : ∀ q ∈ (pg_L260.drop 48).take 48, decode prog_14_method_53_code q.1 = .ok (q.2.1, q.2.2.1 - q.1) := by decide +kernel
theorem pg_d260 : ∀ q ∈ pg_L260, decode prog_14_method_53_code q.1 = .ok (q.2.1, q.2.2.1 - q.1) := pg_cut 48 2 pg_L260 (by decide +kernel) (by
  intro c hc
  rcases (show c = 0 ∨ c = 1 by omega) with rfl | rfl
  · exact pg_d260_0
  · exact pg_d260_1)
theorem pg_d261_0 : ∀ q ∈ (pg_L261.drop 0).take 48, decode prog_14_method_51_code q.1 = .ok (q.2.1, q.2.2.1 - q.1) := by decide +kernel
theorem pg_d261_1 : ∀ q ∈ (pg_L261.drop 48).take 48, decode prog_14_method_51_code q.1 = .ok (q.2.1, q.2.2.1 - q.1) := by decide +kernel
theorem pg_d261 : ∀ q ∈ pg_L261, decode prog_14_method_51_code q.1 = .ok (q.2.1, q.2.2.1 - q.1) := pg_cut 48 2 pg_L261 (by decide +kernel) (by
  intro c hc
  rcases (show c = 0 ∨ c = 1 by omega) with rfl | rfl
  · exact pg_d261_0
  · exact pg_d261_1)
theorem pg_d262_0 : ∀ q ∈ (pg_L262.drop 0).take 48, decode prog_14_method_49_code q.1 = .ok (q.2.1, q.2.2.1 - q.1) := by decide +kernel
theorem pg_d262_1 : ∀ q ∈ (pg_L262.drop 48).take 48, decode prog_14_method_49_code q.1 = .ok (q.2.1, q.2.2.1 - q.1) := by decide +kernel
theorem pg_d262 : ∀ q ∈ pg_L262, decode prog_14_method_49_code q.1 = .ok (q.2.1, q.2.2.1 - q.1) := pg_cut 48 2 pg_L262 (by decide +kernel) (by
  intro c hc
  rcases (show c = 0 ∨ c = 1 by omega) with rfl | rfl
  · exact pg_d262_0
  · exact pg_d262_1)
theorem pg_d263_0 : ∀ q ∈ (pg_L263.drop 0).take 48, decode prog_14_method_70_code q.1 = .ok (q.2.1, q.2.2.1 - q.1) := by decide +kernel
theorem pg_d263_1 : ∀ q ∈ (pg_L263.drop 48).take 48, decode prog_14_method_70_code q.1 = .ok (q.2.1, q.2.2.1 - q.1) := by decide +kernel
theorem pg_d263 : ∀ q ∈ pg_L263, decode prog_14_method_70_code q.1 = .ok (q.2.1, q.2.2.1 - q.1) := pg_cut 48 2 pg_L263 (by decide +kernel) (by
  intro c hc
  rcases (show c = 0 ∨ c = 1 by omega) with rfl | rfl
  · exact pg_d263_0
  · exact pg_d263_1)
theorem pg_d264_0 : ∀ q ∈ (pg_L264.drop 0).take 48, decode prog_14_method_69_code q.1 = .ok (q.2.1, q.2.2.1 - q.1) := by decide +kernel
theorem pg_d264_1 : ∀ q ∈ (pg_L264.drop 48).take 48, decode prog_14_method_69_code q.1 = .ok (q.2.1, q.2.2.1 - q.1) := by decide +kernel
theorem pg_d264 : ∀ q ∈ pg_L264, decode prog_14_method_69_code q.1 = .ok (q.2.1, q.2.2.1 - q.1) := pg_cut 48 2 pg_L264 (by decide +kernel) (by
  intro c hc
  rcases (show c = 0 ∨ c = 1 by omega) with rfl | rfl
  · exact pg_d264_0
  · exact pg_d264_1)
theorem pg_d265 : ∀ q ∈ pg_L265, decode prog_14_method_68_code q.1 = .ok (q.2.1, q.2.2.1 - q.1) := by decide +kernel
theorem pg_d266 : ∀ q ∈ pg_L266, decode prog_14_method_50_code q.1 = .ok (q.2.1, q.2.2.1 - q.1) := by decide +kernel
theorem pg_d267 : ∀ q ∈ pg_L267, decode prog_14_method_24_code q.1 = .ok (q.2.1, q.2.2.1 - q.1) := by decide +kernel
theorem pg_d268 : ∀ q ∈ pg_L268, decode prog_14_method_25_code q.1 = .ok (q.2.1, q.2.2.1 - q.1) := by decide +kernel
theorem pg_d269_0 : ∀ q ∈ (pg_L269.drop 0).take 48, decode prog_14_method_67_code q.1 = .ok (q.2.1, q.2.2.1 - q.1) := by decide +kernel
theorem pg_d269_1 : ∀ q ∈ (pg_L269.drop 48).take 48, decode prog_14_method_67_code q.1 = .ok (q.2.1, q.2.2.1 - q.1) := by decide +kernel
theorem pg_d269 : ∀ q ∈ pg_L269, decode prog_14_method_67_code q.1 = .ok (q.2.1, q.2.2.1 - q.1) := pg_cut 48 2 pg_L269 (by decide +kernel) (by
  intro c hc
  rcases (show c = 0 ∨ c = 1 by omega) with rfl | rfl
  · exact pg_d269_0
  · exact pg_d269_1)
theorem pg_d270_0 : ∀ q ∈ (pg_L270.drop 0).take 48, decode prog_14_method_66_code q.1 = .ok (q.2.1, q.2.2.1 - q.1) := by decide +kernel
theorem pg_d270_1 : ∀ q ∈ (pg_L270.drop 48).take 48, decode prog_14_method_66_code q.1 = .ok (q.2.1, q.2.2.1 - q.1) := by decide +kernel
theorem pg_d270 : ∀ q ∈ pg_L270, decode prog_14_method_66_code q.1 = .ok (q.2.1, q.2.2.1 - q.1) := pg_cut 48 2 pg_L270 (by decide +kernel) (by
  intro c hc
  rcases (show c = 0 ∨ c = 1 by omega) with rfl | rfl
  · exact pg_d270_0
  · exact pg_d270_1)
theorem pg_d271 : ∀ q ∈ pg_L271, decode prog_14_method_71_code q.1 = .ok (q.2.1, q.2.2.1 - q.1) := by decide +kernel
theorem pg_d272_0 : ∀ q ∈ (pg_L272.drop 0).take 48, decode prog_14_method_65_code q.1 = .ok (q.2.1, q.2.2.1 - q.1) := by decide +kernel
theorem pg_d272_1 : ∀ q ∈ (pg_L272.drop 48).take 48, decode prog_14_method_65_code q.1 = .ok (q.2.1, q.2.2.1 - q.1) := by decide +kernel
theorem pg_d272_2 : ∀ q ∈ (pg_L272.drop 96).take 48, decode prog_14_method_65_code q.1 = .ok (q.2.1, q.2.2.1 - q.1) := by decide +kernel
theorem pg_d272 : ∀ q ∈ pg_L272, decode prog_14_method_65_code q.1 = .ok (q.2.1, q.2.2.1 - q.1) := pg_cut 48 3 pg_L272 (by decide +kernel) (by
  intro c hc
  rcases (show c = 0 ∨ c = 1 ∨ c = 2 by omega) with rfl | rfl | rfl
  · exact pg_d272_0
  · exact pg_d272_1
  · exact pg_d272_2)
theorem pg_d273 : ∀ q ∈ pg_L273, decode prog_14_method_52_code q.1 = .ok (q.2.1, q.2.2.1 - q.1) := by decide +kernel
theorem pg_d274_0 : ∀ q ∈ (pg_L274.drop 0).take 48, decode prog_14_method_63_code q.1 = .ok (q.2.1, q.2.2.1 - q.1) := by decide +kernel
theorem pg_d274_1 : ∀ q ∈ (pg_L274.drop 48).take 48, decode prog_14_method_63_code q.1 = .ok (q.2.1, q.2.2.1 - q.1) := by decide +kernel
theorem pg_d274_2 : ∀ q ∈ (pg_L274.drop 96).take 48, decode prog_14_method_63_code q.1 = .ok (q.2.1, q.2.2.1 - q.1) := by decide +kernel
theorem pg_d274_3 : ∀ q ∈ (pg_L274.drop 144).take 48, decode prog_14_method_63_code q.1 = .ok (q.2.1, q.2.2.1 - q.1) := by decide +kernel
theorem pg_d274 : ∀ q ∈ pg_L274, decode prog_14_method_63_code q.1 = .ok (q.2.1, q.2.2.1 - q.1) := pg_cut 48 4 pg_L274 (by decide +kernel) (by
  intro c hc
  rcases (show c = 0 ∨ c = 1 ∨ c = 2 ∨ c = 3 by omega) with rfl | rfl | rfl | rfl
  · exact pg_d274_0
  · exact pg_d274_1
  · exact pg_d274_2
  · exact pg_d274_3)
theorem pg_d275 : ∀ q ∈ pg_L275, decode prog_14_method_61_code q.1 = .ok (q.2.1, q.2.2.1 - q.1) := by decide +kernel
theorem pg_d276 : ∀ q ∈ pg_L276, decode prog_14_method_60_code q.1 = .ok (q.2.1, q.2.2.1 - q.1) := by decide +kernel
theorem pg_d277 : ∀ q ∈ pg_L277, decode prog_14_method_64_code q.1 = .ok (q.2.1, q.2.2.1 - q.1) := by decide +kernel
theorem pg_d278_0 : ∀ q ∈ (pg_L278.drop 0).take 48, decode prog_14_method_72_code q.1 = .ok (q.2.1, q.2.2.1 - q.1) := by decide +kernel
theorem pg_d278_1 : ∀ q ∈ (pg_L278.drop 48).take 48, decode prog_14_method_72_code q.1 = .ok (q.2.1, q.2.2.1 - q.1) := by decide +kernel
theorem pg_d278 : ∀ q ∈ pg_L278, decode prog_14_method_72_code q.1 = .ok (q.2.1, q.2.2.1 - q.1) := pg_cut 48 2 pg_L278 (by decide +kernel) (by
  intro c hc
  rcases (show c = 0 ∨ c = 1 by omega) with rfl | rfl
  · exact pg_d278_0
  · exact pg_d278_1)
theorem pg_d279_0 : ∀ q ∈ (pg_L279.drop 0).take 48, decode prog_14_method_83_code q.1 = .ok (q.2.1, q.2.2.1 - q.1) := by decide +kernel
theorem pg_d279_1 : ∀ q ∈ (pg_L279.drop 48).take 48, decode prog_14_method_83_code q.1 = .ok (q.2.1, q.2.2.1 - q.1) := by decide +kernel
theorem pg_d279_2 : ∀ q ∈ (pg_L279.drop 96).take 48, decode prog_14_method_83_code q.1 = .ok (q.2.1, q.2.2.1 - q.1) := by decide +kernel
theorem pg_d279 : ∀ q ∈ pg_L279, decode prog_14_method_83_code q.1 = .ok (q.2.1, q.2.2.1 - q.1) := pg_cut 48 3 pg_L279 (by decide +kernel) (by
  intro c hc
  rcases (show c = 0 ∨ c = 1 ∨ c = 2 by omega) with rfl | rfl | rfl
  · exact pg_d279_0
  · exact pg_d279_1
  · exact pg_d279_2)
theorem pg_d280 : ∀ q ∈ pg_L280, decode prog_14_method_84_code q.1 = .ok (q.2.1, q.2.2.1 - q.1) := by decide +kernel
theorem pg_d281_0 : ∀ q ∈ (pg_L281.drop 0).take 48, decode prog_14_method_76_code q.1 = .ok (q.2.1, q.2.2.1 - q.1) := by decide +kernel
theorem pg_d281_1 : ∀ q ∈ (pg_L281.drop 48).take 48, decode prog_14_method_76_code q.1 = .ok (q.2.1, q.2.2.1 - q.1) := by decide +kernel
theorem pg_d281 : ∀ q ∈ pg_L281, decode prog_14_method_76_code q.1 = .ok (q.2.1, q.2.2.1 - q.1) := pg_cut 48 2 pg_L281 (by decide +kernel) (by
  intro c hc
  rcases (show c = 0 ∨ c = 1 by omega) with rfl | rfl
  · exact pg_d281_0
  · exact pg_d281_1)
theorem pg_d282 : ∀ q ∈ pg_L282, decode prog_14_method_74_code q.1 = .ok (q.2.1, q.2.2.1 - q.1) := by decide +kernel
theorem pg_d283 : ∀ q ∈ pg_L283, decode prog_14_method_54_code q.1 = .ok (q.2.1, q.2.2.1 - q.1) := by decide +kernel
theorem pg_d284 : ∀ q ∈ pg_L284, decode prog_14_method_73_code q.1 = .ok (q.2.1, q.2.2.1 - q.1) := by decide +kernel
theorem pg_d285_0 : ∀ q ∈ (pg_L285.drop 0).take 48, decode prog_14_method_75_code q.1 = .ok (q.2.1, q.2.2.1 - q.1) := by decide +kernel
theorem pg_d285_1 : ∀ q ∈ (pg_L285.drop 48).take 48, decode prog_14_method_75_code q.1 = .ok (q.2.1, q.2.2.1 - q.1) := by decide +kernel
theorem pg_d285 : ∀ q ∈ pg_L285, decode prog_14_method_75_code q.1 = .ok (q.2.1, q.2.2.1 - q.1) := pg_cut 48 2 pg_L285 (by decide +kernel) (by
  intro c hc
  rcases (show c = 0 ∨ c = 1 by omega) with rfl | rfl
  · exact pg_d285_0
  · exact pg_d285_1)
theorem pg_d286_0 : ∀ q ∈ (pg_L286.drop 0).take 48, decode prog_14_method_86_code q.1 = .ok (q.2.1, q.2.2.1 - q.1) := by decide +kernel
theorem pg_d286_1 : ∀ q ∈ (pg_L286.drop 48).take 48, decode prog_14_method_86_code q.1 = .ok (q.2.1, q.2.2.1 - q.1) := by decide +kernel
theorem pg_d286_2 : ∀ q ∈ (pg_L286.drop 96).take 48, decode prog_14_method_86_code q.1 = .ok (q.2.1, q.2.2.1 - q.1) := by decide +kernel
theorem pg_d286 : ∀ q ∈ pg_L286, decode prog_14_method_86_code q.1 = .ok (q.2.1, q.2.2.1 - q.1) := pg_cut 48 3 pg_L286 (by decide +kernel) (by
  intro c hc
  rcases (show c = 0 ∨ c = 1 ∨ c = 2 by omega) with rfl | rfl | rfl
  · exact pg_d286_0
  · exact pg_d286_1
  · exact pg_d286_2)
theorem pg_d287 : ∀ q ∈ pg_L287, decode prog_14_method_62_code q.1 = .ok (q.2.1, q.2.2.1 - q.1) := by decide +kernel
theorem pg_d288_0 : ∀ q ∈ (pg_L288.drop 0).take 48, decode prog_14_method_16_code q.1 = .ok (q.2.1, q.2.2.1 - q.1) := by decide +kernel
theorem pg_d288_1 : ∀ q ∈ (pg_L288.drop 48).take 48, decode prog_14_method_16_code q.1 = .ok (q.2.1, q.2.2.1 - q.1) := by decide +kernel
theorem pg_d288 : ∀ q ∈ pg_L288, decode prog_14_method_16_code q.1 = .ok (q.2.1, q.2.2.1 - q.1) := pg_cut 48 2 pg_L288 (by decide +kernel) (by
  intro c hc
  rcases (show c = 0 ∨ c = 1 by omega) with rfl | rfl
  · exact pg_d288_0
  · exact pg_d288_1)
theorem pg_d289_0 : ∀ q ∈ (pg_L289.drop 0).take 48, decode prog_14_method_93_code q.1 = .ok (q.2.1, q.2.2.1 - q.1) := by decide +kernel
theorem pg_d289_1 : ∀ q ∈ (pg_L289.drop 48).take 48, decode prog_14_method_93_code q.1 = .ok (q.2.1, q.2.2.1 - q.1) := by decide +kernel
theorem pg_d289_2 : ∀ q ∈ (pg_L289.drop 96).take 48, decode prog_14_method_93_code q.1 = .ok (q.2.1, q.2.2.1 - q.1) := by decide +kernel
theorem pg_d289 : ∀ q ∈ pg_L289, decode prog_14_method_93_code q.1 = .ok (q.2.1, q.2.2.1 - q.1) := pg_cut 48 3 pg_L289 (by decide +kernel) (by
  intro c hc
  rcases (show c = 0 ∨ c = 1 ∨ c = 2 by omega) with rfl | rfl | rfl
  · exact pg_d289_0
  · exact pg_d289_1
  · exact pg_d289_2)
theorem pg_d290_0 : ∀ q ∈ (pg_L290.drop 0).take 48, decode prog_14_method_89_code q.1 = .ok (q.2.1, q.2.2.1 - q.1) := by decide +kernel
theorem pg_d290_1 : ∀ q ∈ (pg_L290.drop 48).take 48, decode prog_14_method_89_code q.1 = .ok (q.2.1, q.2.2.1 - q.1) := by decide +kernel
theorem pg_d290 : ∀ q ∈ pg_L290, decode prog_14_method_89_code q.1 = .ok (q.2.1, q.2.2.1 - q.1) := pg_cut 48 2 pg_L290 (by decide +kernel) (by
  intro c hc
  rcases (show c = 0 ∨ c = 1 by omega) with rfl | rfl
  · exact pg_d290_0
  · exact pg_d290_1)
theorem pg_d291 : ∀ q ∈ pg_L291, decode prog_14_method_91_code q.1 = .ok (q.2.1, q.2.2.1 - q.1) := by decide +kernel
theorem pg_d292_0 : ∀ q ∈ (pg_L292.drop 0).take 48, decode prog_14_method_90_code q.1 = .ok (q.2.1, q.2.2.1 - q.1) := by decide +kernel
theorem pg_d292_1 : ∀ q ∈ (pg_L292.drop 48).take 48, decode prog_14_method_90_code q.1 = .ok (q.2.1, q.2.2.1 - q.1) := by decide +kernel
theorem pg_d292 : ∀ q ∈ pg_L292, decode prog_14_method_90_code q.1 = .ok (q.2.1, q.2.2.1 - q.1) := pg_cut 48 2 pg_L292 (by decide +kernel) (by
  intro c hc
  rcases (show c = 0 ∨ c = 1 by omega) with rfl | rfl
  · exact pg_d292_0
  · exact pg_d292_1)
theorem pg_d293_0 : ∀ q ∈ (pg_L293.drop 0).take 48, decode prog_14_method_92_code q.1 = .ok (q.2.1, q.2.2.1 - q.1) := by decide +kernel
theorem pg_d293_1 : ∀ q ∈ (pg_L293.drop 48).take 48, decode prog_14_method_92_code q.1 = .ok (q.2.1, q.2.2.1 - q.1) := by decide +kernel
theorem pg_d293 : ∀ q ∈ pg_L293, decode prog_14_method_92_code q.1 = .ok (q.2.1, q.2.2.1 - q.1) := pg_cut 48 2 pg_L293 (by decide +kernel) (by
  intro c hc
  rcases (show c = 0 ∨ c = 1 by omega) with rfl | rfl
  · exact pg_d293_0
  · exact pg_d293_1)
theorem pg_d294_0 : ∀ q ∈ (pg_L294.drop 0).take 48, decode prog_14_method_82_code q.1 = .ok (q.2.1, q.2.2.1 - q.1) := by decide +kernel
theorem pg_d294_1 : ∀ q ∈ (pg_L294.drop 48).take 48, decode prog_14_method_82_code q.1 = .ok (q.2.1, q.2.2.1 - q.1) := by decide +kernel
theorem pg_d294_2 : ∀ q ∈ (pg_L294.drop 96).take 48, decode prog_14_method_82_code q.1 = .ok (q.2.1, q.2.2.1 - q.1) := by decide +kernel
theorem pg_d294 : ∀ q ∈ pg_L294, decode prog_14_method_82_code q.1 = .ok (q.2.1, q.2.2.1 - q.1) := pg_cut 48 3 pg_L294 (by decide +kernel) (by
  intro c hc
  rcases (show c = 0 ∨ c = 1 ∨ c = 2 by omega) with rfl | rfl | rfl
  · exact pg_d294_0
  · exact pg_d294_1
  · exact pg_d294_2)
theorem pg_d295 : ∀ q ∈ pg_L295, decode prog_14_method_81_code q.1 = .ok (q.2.1, q.2.2.1 - q.1) := by decide +kernel
theorem pg_d296_0 : ∀ q ∈ (pg_L296.drop 0).take 48, decode prog_14_method_80_code q.1 = .ok (q.2.1, q.2.2.1 - q.1) := by decide +kernel
theorem pg_d296_1 : ∀ q ∈ (pg_L296.drop 48).take 48, decode prog_14_method_80_code q.1 = .ok (q.2.1, q.2.2.1 - q.1) := by decide +kernel
theorem pg_d296_2 : ∀ q ∈ (pg_L296.drop 96).take 48, decode prog_14_method_80_code q.1 = .ok (q.2.1, q.2.2.1 - q.1) := by decide +kernel
theorem pg_d296 : ∀ q ∈ pg_L296, decode prog_14_method_80_code q.1 = .ok (q.2.1, q.2.2.1 - q.1) := pg_cut 48 3 pg_L296 (by decide +kernel) (by
  intro c hc
  rcases (show c = 0 ∨ c = 1 ∨ c = 2 by omega) with rfl | rfl | rfl
  · exact pg_d296_0
  · exact pg_d296_1
  · exact pg_d296_2)
theorem pg_d297_0 : ∀ q ∈ (pg_L297.drop 0).take 48, decode prog_14_method_78_code q.1 = .ok (q.2.1, q.2.2.1 - q.1) := by decide +kernel
theorem pg_d297_1 : ∀ q ∈ (pg_L297.drop 48).take 48, decode prog_14_method_78_code q.1 = .ok (q.2.1, q.2.2.1 - q.1) := by decide +kernel
theorem pg_d297 : ∀ q ∈ pg_L297, decode prog_14_method_78_code q.1 = .ok (q.2.1, q.2.2.1 - q.1) := pg_cut 48 2 pg_L297 (by decide +kernel) (by
  intro c hc
  rcases (show c = 0 ∨ c = 1 by omega) with rfl | rfl
  · exact pg_d297_0
  · exact pg_d297_1)
theorem pg_d298 : ∀ q ∈ pg_L298, decode prog_14_method_79_code q.1 = .ok (q.2.1, q.2.2.1 - q.1) := by decide +kernel
theorem pg_d299_0 : ∀ q ∈ (pg_L299.drop 0).take 48, decode prog_14_method_77_code q.1 = .ok (q.2.1, q.2.2.1 - q.1) := by decide +kernel
theorem pg_d299_1 : ∀ q ∈ (pg_L299.drop 48).take 48, decode prog_14_method_77_code q.1 = .ok (q.2.1, q.2.2.1 - q.1) := by decide +kernel
theorem pg_d299 : ∀ q ∈ pg_L299, decode prog_14_method_77_code q.1 = .ok (q.2.1, q.2.2.1 - q.1) := pg_cut 48 2 pg_L299 (by decide +kernel) (by
  intro c hc
  rcases (show c = 0 ∨ c = 1 by omega) with rfl | rfl
  · exact pg_d299_0
  · exact pg_d299_1)
theorem pg_d300_0 : ∀ q ∈ (pg_L300.drop 0).take 48, decode prog_14_method_102_code q.1 = .ok (q.2.1, q.2.2.1 - q.1) := by decide +kernel
theorem pg_d300_1 : ∀ q ∈ (pg_L300.drop 48).take 48, decode prog_14_method_102_code q.1 = .ok (q.2.1, q.2.2.1 - q.1) := by decide +kernel
theorem pg_d300_2 : ∀ q ∈ (pg_L300.drop 96).take 48, decode prog_14_method_102_code q.1 = .ok (q.2.1, q.2.2.1 - q.1) := by decide +kernel
theorem pg_d300_3 : ∀ q ∈ (pg_L300.drop 144).take 48, decode prog_14_method_102_code q.1 = .ok (q.2.1, q.2.2.1 - q.1) := by decide +kernel
theorem pg_d300 : ∀ q ∈ pg_L300, decode prog_14_method_102_code q.1 = .ok (q.2.1, q.2.2.1 - q.1) := pg_cut 48 4 pg_L300 (by decide +kernel) (by
  intro c hc
  rcases (show c = 0 ∨ c = 1 ∨ c = 2 ∨ c = 3 by omega) with rfl | rfl | rfl | rfl
  · exact pg_d300_0
  · exact pg_d300_1
  · exact pg_d300_2
  · exact pg_d300_3)
theorem pg_d301_0 : ∀ q ∈ (pg_L301.drop 0).take 48, decode prog_14_method_95_code q.1 = .ok (q.2.1, q.2.2.1 - q.1) := by decide +kernel
theorem pg_d301_1 : ∀ q ∈ (pg_L301.drop 48).take 48, decode prog_14_method_95_code q.1 = .ok (q.2.1, q.2.2.1 - q.1) := by decide +kernel
theorem pg_d301_2 : ∀ q ∈ (pg_L301.drop 96).take 48, decode prog_14_method_95_code q.1 = .ok (q.2.1, q.2.2.1 - q.1) := by decide +kernel
theorem pg_d301 : ∀ q ∈ pg_L301, decode prog_14_method_95_code q.1 = .ok (q.2.1, q.2.2.1 - q.1) := pg_cut 48 3 pg_L301 (by decide +kernel) (by
  intro c hc
  rcases (show c = 0 ∨ c = 1 ∨ c = 2 by omega) with rfl | rfl | rfl
  · exact pg_d301_0
  · exact pg_d301_1
  · exact pg_d301_2)
theorem pg_d302 : ∀ q ∈ pg_L302, decode prog_14_method_87_code q.1 = .ok (q.2.1, q.2.2.1 - q.1) := by decide +kernel
theorem pg_d303 : ∀ q ∈ pg_L303, decode prog_14_method_88_code q.1 = .ok (q.2.1, q.2.2.1 - q.1) := by decide +kernel
theorem pg_d304 : ∀ q ∈ pg_L304, decode prog_14_method_99_code q.1 = .ok (q.2.1, q.2.2.1 - q.1) := by decide +kernel
theorem pg_d305_0 : ∀ q ∈ (pg_L305.drop 0).take 48, decode prog_14_method_101_code q.1 = .ok (q.2.1, q.2.2.1 - q.1) := by decide +kernel
theorem pg_d305_1 : ∀ q ∈ (pg_L305.drop 48).take 48, decode prog_14_method_101_code q.1 = .ok (q.2.1, q.2.2.1 - q.1) := by decide +kernel
theorem pg_d305_2 : ∀ q ∈ (pg_L305.drop 96).take 48, decode prog_14_method_101_code q.1 = .ok (q.2.1, q.2.2.1 - q.1) := by decide +kernel
theorem pg_d305_3 : ∀ q ∈ (pg_L305.drop 144).take 48, decode prog_14_method_101_code q.1 = .ok (q.2.1, q.2.2.1 - q.1) := by decide +kernel
theorem pg_d305 : ∀ q ∈ pg_L305, decode prog_14_method_101_code q.1 = .ok (q.2.1, q.2.2.1 - q.1) := pg_cut 48 4 pg_L305 (by decide +kernel) (by
  intro c hc
  rcases (show c = 0 ∨ c = 1 ∨ c = 2 ∨ c = 3 by omega) with rfl | rfl | rfl | rfl
  · exact pg_d305_0
  · exact pg_d305_1
  · exact pg_d305_2
  · exact pg_d305_3)
theorem pg_d306 : ∀ q ∈ pg_L306, decode prog_14_method_85_code q.1 = .ok (q.2.1, q.2.2.1 - q.1) := by decide +kernel
theorem pg_d307_0 : ∀ q ∈ (pg_L307.drop 0).take 48, decode prog_14_method_96_code q.1 = .ok (q.2.1, q.2.2.1 - q.1) := by decide +kernel
theorem pg_d307_1 : ∀ q ∈ (pg_L307.drop 48).take 48, decode prog_14_method_96_code q.1 = .ok (q.2.1, q.2.2.1 - q.1) := by decide +kernel
theorem pg_d307_2 : ∀ q ∈ (pg_L307.drop 96).take 48, decode prog_14_method_96_code q.1 = .ok (q.2.1, q.2.2.1 - q.1) := by decide +kernel
theorem pg_d307 : ∀ q ∈ pg_L307, decode prog_14_method_96_code q.1 = .ok (q.2.1, q.2.2.1 - q.1) := pg_cut 48 3 pg_L307 (by decide +kernel) (by
  intro c hc
  rcases (show c = 0 ∨ c = 1 ∨ c = 2 by omega) with rfl | rfl | rfl
  · exact pg_d307_0
  · exact pg_d307_1
  · exact pg_d307_2)
theorem pg_d308_0 : ∀ q ∈ (pg_L308.drop 0).take 48, decode prog_14_method_98_code q.1 = .ok (q.2.1, q.2.2.1 - q.1) := by decide +kernel
theorem pg_d308_1 : ∀ q ∈ (pg_L308.drop 48).take 48, decode prog_14_method_98_code q.1 = .ok (q.2.1, q.2.2.1 - q.1) := by decide +kernel
theorem pg_d308 : ∀ q ∈ pg_L308, decode prog_14_method_98_code q.1 = .ok (q.2.1, q.2.2.1 - q.1) := pg_cut 48 2 pg_L308 (by decide +kernel) (by
  intro c hc
  rcases (show c = 0 ∨ c = 1 by omega) with rfl | rfl
  · exact pg_d308_0
  · exact pg_d308_1)
theorem pg_d309_0 : ∀ q ∈ (pg_L309.drop 0).take 48, decode prog_14_method_94_code q.1 = .ok (q.2.1, q.2.2.1 - q.1) := by decide +kernel
theorem pg_d309_1 : ∀ q ∈ (pg_L309.drop 48).take 48, decode prog_14_method_94_code q.1 = .ok (q.2.1, q.2.2.1 - q.1) := by decide +kernel
theorem pg_d309 : ∀ q ∈ pg_L309, decode prog_14_method_94_code q.1 = .ok (q.2.1, q.2.2.1 - q.1) := pg_cut 48 2 pg_L309 (by decide +kernel) (by
  intro c hc
  rcases (show c = 0 ∨ c = 1 by omega) with rfl | rfl
  · exact pg_d309_0
  · exact pg_d309_1)
theorem pg_d310_0 : ∀ q ∈ (pg_L310.drop 0).take 48, decode prog_14_method_97_code q.1 = .ok (q.2.1, q.2.2.1 - q.1) := by decide +kernel
theorem pg_d310_1 : ∀ q ∈ (pg_L310.drop 48).take 48, decode prog_14_method_97_code q.1 = .ok (q.2.1, q.2.2.1 - q.1) := by decide +kernel
theorem pg_d310 : ∀ q ∈ pg_L310, decode prog_14_method_97_code q.1 = .ok (q.2.1, q.2.2.1 - q.1) := pg_cut 48 2 pg_L310 (by decide +kernel) (by
  intro c hc
  rcases (show c = 0 ∨ c = 1 by omega) with rfl | rfl
  · exact pg_d310_0
  · exact pg_d310_1)
theorem pg_d311_0 : ∀ q ∈ (pg_L311.drop 0).take 48, decode prog_14_method_100_code q.1 = .ok (q.2.1, q.2.2.1 - q.1) := by decide +kernel
theorem pg_d311_1 : ∀ q ∈ (pg_L311.drop 48).take 48, decode prog_14_method_100_code q.1 = .ok (q.2.1, q.2.2.1 - q.1) := by decide +kernel
theorem pg_d311_2 : ∀ q ∈ (pg_L311.drop 96).take 48, decode prog_14_method_100_code q.1 = .ok (q.2.1, q.2.2.1 - q.1) := by decide +kernel
theorem pg_d311 : ∀ q ∈ pg_L311, decode prog_14_method_100_code q.1 = .ok (q.2.1, q.2.2.1 - q.1) := pg_cut 48 3 pg_L311 (by decide +kernel) (by
  intro c hc
  rcases (show c = 0 ∨ c = 1 ∨ c = 2 by omega) with rfl | rfl | rfl
  · exact pg_d311_0
  · exact pg_d311_1
  · exact pg_d311_2)
theorem pg_d312 : ∀ q ∈ pg_L312, decode prog_14_method_103_code q.1 = .ok (q.2.1, q.2.2.1 - q.1) := by decide +kernel
theorem pg_d313_0 : ∀ q ∈ (pg_L313.drop 0).take 48, decode prog_14_method_104_code q.1 = .ok (q.2.1, q.2.2.1 - q.1) := by decide +kernel
theorem pg_d313_1 : ∀ q ∈ (pg_L313.drop 48).take 48, decode prog_14_method_104_code q.1 = .ok (q.2.1, q.2.2.1 - q.1) := by decide +kernel
theorem pg_d313 : ∀ q ∈ pg_L313, decode prog_14_method_104_code q.1 = .ok (q.2.1, q.2.2.1 - q.1) := pg_cut 48 2 pg_L313 (by decide +kernel) (by
  intro c hc
  rcases (show c = 0 ∨ c = 1 by omega) with rfl | rfl
  · exact pg_d313_0
  · exact pg_d313_1)
theorem pg_d314_0 : ∀ q ∈ (pg_L314.drop 0).take 48, decode prog_14_method_110_code q.1 = .ok (q.2.1, q.2.2.1 - q.1) := by decide +kernel
theorem pg_d314_1 : ∀ q ∈ (pg_L314.drop 48).take 48, decode prog_14_method_110_code q.1 = .ok (q.2.1, q.2.2.1 - q.1) := by decide +kernel
theorem pg_d314 : ∀ q ∈ pg_L314, decode prog_14_method_110_code q.1 = .ok (q.2.1, q.2.2.1 - q.1) := pg_cut 48 2 pg_L314 (by decide +kernel) (by
  intro c hc
  rcases (show c = 0 ∨ c = 1 by omega) with rfl | rfl
  · exact pg_d314_0
  · exact pg_d314_1)
theorem pg_d315_0 : ∀ q ∈ (pg_L315.drop 0).take 48, decode prog_14_method_111_code q.1 = .ok (q.2.1, q.2.2.1 - q.1) := by decide +kernel
theorem pg_d315_1 : ∀ q ∈ (pg_L315.drop 48).take 48, decode prog_14_method_111_code q.1 = .ok (q.2.1, q.2.2.1 - q.1) := by decide +kernel
theorem pg_d315 : ∀ q ∈ pg_L315, decode prog_14_method_111_code q.1 = .ok (q.2.1, q.2.2.1 - q.1) := pg_cut 48 2 pg_L315 (by decide +kernel) (by
  intro c hc
  rcases (show c = 0 ∨ c = 1 by omega) with rfl | rfl
  · exact pg_d315_0
  · exact pg_d315_1)
theorem pg_d316_0 : ∀ q ∈ (pg_L316.drop 0).take 48, decode prog_14_method_108_code q.1 = .ok (q.2.1, q.2.2.1 - q.1) := by decide +kernel
theorem pg_d316_1 : ∀ q ∈ (pg_L316.drop 48).take 48, decode prog_14_method_108_code q.1 = .ok (q.2.1, q.2.2.1 - q.1) := by decide +kernel
theorem pg_d316_2 : ∀ q ∈ (pg_L316.drop 96).take 48, decode prog_14_method_108_code q.1 = .ok (q.2.1, q.2.2.1 - q.1) := by decide +kernel
theorem pg_d316_3 : ∀ q ∈ (pg_L316.drop 144).take 48, decode prog_14_method_108_code q.1 = .ok (q.2.1, q.2.2.1 - q.1) := by decide +kernel
theorem pg_d316 : ∀ q ∈ pg_L316, decode prog_14_method_108_code q.1 = .ok (q.2.1, q.2.2.1 - q.1) := pg_cut 48 4 pg_L316 (by decide +kernel) (by
  intro c hc
  rcases (show c = 0 ∨ c = 1 ∨ c = 2 ∨ c = 3 by omega) with rfl | rfl | rfl | rfl
  · exact pg_d316_0
  · exact pg_d316_1
  · exact pg_d316_2
  · exact pg_d316_3)
theorem pg_d317 : ∀ q ∈ pg_L317, decode prog_14_method_105_code q.1 = .ok (q.2.1, q.2.2.1 - q.1) := by decide +kernel
theorem pg_d318 : ∀ q ∈ pg_L318, decode prog_14_method_106_code q.1 = .ok (q.2.1, q.2.2.1 - q.1) := by decide +kernel
theorem pg_d319_0 : ∀ q ∈ (pg_L319.drop 0).take 48, decode prog_14_method_107_code q.1 = .ok (q.2.1, q.2.2.1 - q.1) := by decide +kernel
theorem pg_d319_1 : ∀ q ∈ (pg_L319.drop 48).take 48, decode prog_14_method_107_code q.1 = .ok (q.2.1, q.2.2.1 - q.1) := by decide +kernel
theorem pg_d319 : ∀ q ∈ pg_L319, decode prog_14_method_107_code q.1 = .ok (q.2.1, q.2.2.1 - q.1) := pg_cut 48 2 pg_L319 (by decide +kernel) (by
  intro c hc
  rcases (show c = 0 ∨ c = 1 by omega) with rfl | rfl
  · exact pg_d319_0
  · exact pg_d319_1)
