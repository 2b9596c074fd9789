theorem pg_d320_0 : ∀ q ∈ (pg_L320.drop 0).take 48, decode prog_14_method_112_code q.1 = .ok (q.2.1, q.2.2.1 - q.1) := by decide +kernel
theorem pg_d320_1 : ∀ q ∈ (pg_L320.drop 48).take 48, decode prog_14_method_112_code q.1 = .ok (q.2.1, q.2.2.1 - q.1) := by decide +kernel
theorem pg_d320 : ∀ q ∈ pg_L320, decode prog_14_method_112_code q.1 = .ok (q.2.1, q.2.2.1 - q.1) := pg_cut 48 2 pg_L320 (by decide +kernel) (by
  intro c hc
  rcases (show c = 0 ∨ c = 1 by omega) with rfl | rfl
  · exact pg_d320_0
  · exact pg_d320_1)
theorem pg_d321 : ∀ q ∈ pg_L321, decode prog_14_method_113_code q.1 = .ok (q.2.1, q.2.2.1 - q.1) := by decide +kernel
theorem pg_d322 : ∀ q ∈ pg_L322, decode prog_14_method_109_code q.1 = .ok (q.2.1, q.2.2.1 - q.1) := by decide +kernel
theorem pg_d323_0 : ∀ q ∈ (pg_L323.drop 0).take 48, decode prog_14_method_114_code q.1 = .ok (q.2.1, q.2.2.1 - q.1) := by decide +kernel
theorem pg_d323_1 : ∀ q ∈ (pg_L323.drop 48).take 48, decode prog_14_method_114_code q.1 = .ok (q.2.1, q.2.2.1 - q.1) := by decide +kernel
theorem pg_d323_2 : ∀ q ∈ (pg_L323.drop 96).take 48, decode prog_14_method_114_code q.1 = .ok (q.2.1, q.2.2.1 - q.1) := by decide +kernel
theorem pg_d323_3 : ∀ q ∈ (pg_L323.drop 144).take 48, decode prog_14_method_114_code q.1 = .ok (q.2.1, q.2.2.1 - q.1) := by decide +kernel
theorem pg_d323_4 : ∀ q ∈ (pg_L323.drop 192).take 48, decode prog_14_method_114_code q.1 = .ok (q.2.1, q.2.2.1 - q.1) := by decide +kernel
theorem pg_d323_5 : ∀ q ∈ (pg_L323.drop 240).take 48, decode prog_14_method_114_code q.1 = .ok (q.2.1, q.2.2.1 - q.1) := by decide +kernel
theorem pg_d323_6 : ∀ q ∈ (pg_L323.drop 288).take 48, decode prog_14_method_114_code q.1 = .ok (q.2.1, q.2.2.1 - q.1) := by decide +kernel
theorem pg_d323_7 : ∀ q ∈ (pg_L323.drop 336).take 48, decode prog_14_method_114_code q.1 = .ok (q.2.1, q.2.2.1 - q.1) := by decide +kernel
theorem pg_d323_8 : ∀ q ∈ (pg_L323.drop 384).take 48, decode prog_14_method_114_code q.1 = .ok (q.2.1, q.2.2.1 - q.1) := by decide +kernel
theorem pg_d323 : ∀ q ∈ pg_L323, decode prog_14_method_114_code q.1 = .ok (q.2.1, q.2.2.1 - q.1) := pg_cut 48 9 pg_L323 (by decide +kernel) (by
  intro c hc
  rcases (show c = 0 ∨ c = 1 ∨ c = 2 ∨ c = 3 ∨ c = 4 ∨ c = 5 ∨ c = 6 ∨ c = 7 ∨ c = 8 by omega) with rfl | rfl | rfl | rfl | rfl | rfl | rfl | rfl | rfl
  · exact pg_d323_0
  · exact pg_d323_1
  · exact pg_d323_2
  · exact pg_d323_3
  · exact pg_d323_4
  · exact pg_d323_5
  · exact pg_d323_6
  · exact pg_d323_7
  · exact pg_d323_8)
theorem pg_d324_0 : ∀ q ∈ (pg_L324.drop 0).take 48, decode prog_14_method_116_code q.1 = .ok (q.2.1, q.2.2.1 - q.1) := by decide +kernel
theorem pg_d324_1 : ∀ q ∈ (pg_L324.drop 48).take 48, decode prog_14_method_116_code q.1 = .ok (q.2.1, q.2.2.1 - q.1) := by decide +kernel
theorem pg_d324_2 : ∀ q ∈ (pg_L324.drop 96).take 48, decode prog_14_method_116_code q.1 = .ok (q.2.1, q.2.2.1 - q.1) := by decide +kernel
theorem pg_d324_3 : ∀ q ∈ (pg_L324.drop 144).take 48, decode prog_14_method_116_code q.1 = .ok (q.2.1, q.2.2.1 - q.1) := by decide +kernel
theorem pg_d324 : ∀ q ∈ pg_L324, decode prog_14_method_116_code q.1 = .ok (q.2.1, q.2.2.1 - q.1) := pg_cut 48 4 pg_L324 (by decide +kernel) (by
  intro c hc
  rcases (show c = 0 ∨ c = 1 ∨ c = 2 ∨ c = 3 by omega) with rfl | rfl | rfl | rfl
  · exact pg_d324_0
  · exact pg_d324_1
  · exact pg_d324_2
  · exact pg_d324_3)
theorem pg_d325_0 : ∀ q ∈ (pg_L325.drop 0).take 48, decode prog_14_method_118_code q.1 = .ok (q.2.1, q.2.2.1 - q.1) := by decide +kernel
theorem pg_d325_1 : ∀ q ∈ (pg_L325.drop 48).take 48, decode prog_14_method_118_code q.1 = .ok (q.2.1, q.2.2.1 - q.1) := by decide +kernel
theorem pg_d325_2 : ∀ q ∈ (pg_L325.drop 96).take 48, decode prog_14_method_118_code q.1 = .ok (q.2.1, q.2.2.1 - q.1) := by decide +kernel
theorem pg_d325_3 : ∀ q ∈ (pg_L325.drop 144).take 48, decode prog_14_method_118_code q.1 = .ok (q.2.1, q.2.2.1 - q.1) := by decide +kernel
theorem pg_d325_4 : ∀ q ∈ (pg_L325.drop 192).take 48, decode prog_14_method_118_code q.1 = .ok (q.2.1, q.2.2.1 - q.1) := by decide +kernel
theorem pg_d325_5 : ∀ q ∈ (pg_L325.drop 240).take 48, decode prog_14_method_118_code q.1 = .ok (q.2.1, q.2.2.1 - q.1) := by decide +kernel
theorem pg_d325_6 : ∀ q ∈ (pg_L325.drop 288).take 48, decode prog_14_method_118_code q.1 = .ok (q.2.1, q.2.2.1 - q.1) := by decide +kernel
theorem pg_d325_7 : ∀ q ∈ (pg_L325.drop 336).take 48, decode prog_14_method_118_code q.1 = .ok (q.2.1, q.2.2.1 - q.1) := by decide +kernel
theorem pg_d325 : ∀ q ∈ pg_L325, decode prog_14_method_118_code q.1 = .ok (q.2.1, q.2.2.1 - q.1) := pg_cut 48 8 pg_L325 (by decide +kernel) (by
  intro c hc
  rcases (show c = 0 ∨ c = 1 ∨ c = 2 ∨ c = 3 ∨ c = 4 ∨ c = 5 ∨ c = 6 ∨ c = 7 by omega) with rfl | rfl | rfl | rfl | rfl | rfl | rfl | rfl
  · exact pg_d325_0
  · exact pg_d325_1
  · exact pg_d325_2
  · exact pg_d325_3
  · exact pg_d325_4
  · exact pg_d325_5
  · exact pg_d325_6
  · exact pg_d325_7)
theorem pg_d326 : ∀ q ∈ pg_L326, decode prog_14_method_129_code q.1 = .ok (q.2.1, q.2.2.1 - q.1) := by decide +kernel
theorem pg_d327 : ∀ q ∈ pg_L327, decode prog_14_method_117_code q.1 = .ok (q.2.1, q.2.2.1 - q.1) := by decide +kernel
theorem pg_d328_0 : ∀ q ∈ (pg_L328.drop 0).take 48, decode prog_14_method_119_code q.1 = .ok (q.2.1, q.2.2.1 - q.1) := by decide +kernel
theorem pg_d328_1 : ∀ q ∈ (pg_L328.drop 48).take 48, decode prog_14_method_119_code q.1 = .ok (q.2.1, q.2.2.1 - q.1) := by decide +kernel
theorem pg_d328 : ∀ q ∈ pg_L328, decode prog_14_method_119_code q.1 = .ok (q.2.1, q.2.2.1 - q.1) := pg_cut 48 2 pg_L328 (by decide +kernel) (by
  intro c hc
  rcases (show c = 0 ∨ c = 1 by omega) with rfl | rfl
  · exact pg_d328_0
  · exact pg_d328_1)
theorem pg_d329_0 : ∀ q ∈ (pg_L329.drop 0).take 48, decode prog_14_method_120_code q.1 = .ok (q.2.1, q.2.2.1 - q.1) := by decide +kernel
theorem pg_d329_1 : ∀ q ∈ (pg_L329.drop 48).take 48, decode prog_14_method_120_code q.1 = .ok (q.2.1, q.2.2.1 - q.1) := by decide +kernel
theorem pg_d329 : ∀ q ∈ pg_L329, decode prog_14_method_120_code q.1 = .ok (q.2.1, q.2.2.1 - q.1) := pg_cut 48 2 pg_L329 (by decide +kernel) (by
  intro c hc
  rcases (show c = 0 ∨ c = 1 by omega) with rfl | rfl
  · exact pg_d329_0
  · exact pg_d329_1)
theorem pg_d330_0 : ∀ q ∈ (pg_L330.drop 0).take 48, decode prog_14_method_121_code q.1 = .ok (q.2.1, q.2.2.1 - q.1) := by decide +kernel
theorem pg_d330_1 : ∀ q ∈ (pg_L330.drop 48).take 48, decode prog_14_method_121_code q.1 = .ok (q.2.1, q.2.2.1 - q.1) := by decide +kernel
theorem pg_d330_2 : ∀ q ∈ (pg_L330.drop 96).take 48, decode prog_14_method_121_code q.1 = .ok (q.2.1, q.2.2.1 - q.1) := by decide +kernel
theorem pg_d330 : ∀ q ∈ pg_L330, decode prog_14_method_121_code q.1 = .ok (q.2.1, q.2.2.1 - q.1) := pg_cut 48 3 pg_L330 (by decide +kernel) (by
  intro c hc
  rcases (show c = 0 ∨ c = 1 ∨ c = 2 by omega) with rfl | rfl | rfl
  · exact pg_d330_0
  · exact pg_d330_1
  · exact pg_d330_2)
theorem pg_d331 : ∀ q ∈ pg_L331, decode prog_14_method_140_code q.1 = .ok (q.2.1, q.2.2.1 - q.1) := by decide +kernel
theorem pg_d332_0 : ∀ q ∈ (pg_L332.drop 0).take 48, decode prog_14_method_132_code q.1 = .ok (q.2.1, q.2.2.1 - q.1) := by decide +kernel
theorem pg_d332_1 : ∀ q ∈ (pg_L332.drop 48).take 48, decode prog_14_method_132_code q.1 = .ok (q.2.1, q.2.2.1 - q.1) := by decide +kernel
theorem pg_d332_2 : ∀ q ∈ (pg_L332.drop 96).take 48, decode prog_14_method_132_code q.1 = .ok (q.2.1, q.2.2.1 - q.1) := by decide +kernel
theorem pg_d332_3 : ∀ q ∈ (pg_L332.drop 144).take 48, decode prog_14_method_132_code q.1 = .ok (q.2.1, q.2.2.1 - q.1) := by decide +kernel
theorem pg_d332 : ∀ q ∈ pg_L332, decode prog_14_method_132_code q.1 = .ok (q.2.1, q.2.2.1 - q.1) := pg_cut 48 4 pg_L332 (by decide +kernel) (by
  intro c hc
  rcases (show c = 0 ∨ c = 1 ∨ c = 2 ∨ c = 3 by omega) with rfl | rfl | rfl | rfl
  · exact pg_d332_0
  · exact pg_d332_1
  · exact pg_d332_2
  · exact pg_d332_3)
theorem pg_d333_0 : ∀ q ∈ (pg_L333.drop 0).take 48, decode prog_14_method_123_code q.1 = .ok (q.2.1, q.2.2.1 - q.1) := by decide +kernel
theorem pg_d333_1 : ∀ q ∈ (pg_L333.drop 48).take 48, decode prog_14_method_123_code q.1 = .ok (q.2.1, q.2.2.1 - q.1) := by decide +kernel
theorem pg_d333 : ∀ q ∈ pg_L333, decode prog_14_method_123_code q.1 = .ok (q.2.1, q.2.2.1 - q.1) := pg_cut 48 2 pg_L333 (by decide +kernel) (by
  intro c hc
  rcases (show c = 0 ∨ c = 1 by omega) with rfl | rfl
  · exact pg_d333_0
  · exact pg_d333_1)
theorem pg_d334 : ∀ q ∈ pg_L334, decode prog_14_method_122_code q.1 = .ok (q.2.1, q.2.2.1 - q.1) := by decide +kernel
theorem pg_d335_0 : ∀ q ∈ (pg_L335.drop 0).take 48, decode prog_14_method_125_code q.1 = .ok (q.2.1, q.2.2.1 - q.1) := by decide +kernel
theorem pg_d335_1 : ∀ q ∈ (pg_L335.drop 48).take 48, decode prog_14_method_125_code q.1 = .ok (q.2.1, q.2.2.1 - q.1) := by decide +kernel
theorem pg_d335 : ∀ q ∈ pg_L335, decode prog_14_method_125_code q.1 = .ok (q.2.1, q.2.2.1 - q.1) := pg_cut 48 2 pg_L335 (by decide +kernel) (by
  intro c hc
  rcases (show c = 0 ∨ c = 1 by omega) with rfl | rfl
  · exact pg_d335_0
  · exact pg_d335_1)
theorem pg_d336 : ∀ q ∈ pg_L336, decode prog_14_method_124_code q.1 = .ok (q.2.1, q.2.2.1 - q.1) := by decide +kernel
theorem pg_d337 : ∀ q ∈ pg_L337, decode prog_14_method_131_code q.1 = .ok (q.2.1, q.2.2.1 - q.1) := by decide +kernel
theorem pg_d338 : ∀ q ∈ pg_L338, decode prog_14_method_130_code q.1 = .ok (q.2.1, q.2.2.1 - q.1) := by decide +kernel
theorem pg_d339 : ∀ q ∈ pg_L339, decode prog_14_method_127_code q.1 = .ok (q.2.1, q.2.2.1 - q.1) := by decide +kernel
theorem pg_d340 : ∀ q ∈ pg_L340, decode prog_14_method_126_code q.1 = .ok (q.2.1, q.2.2.1 - q.1) := by decide +kernel
theorem pg_d341 : ∀ q ∈ pg_L341, decode prog_14_method_128_code q.1 = .ok (q.2.1, q.2.2.1 - q.1) := by decide +kernel
theorem pg_d342_0 : ∀ q ∈ (pg_L342.drop 0).take 48, decode prog_14_method_135_code q.1 = .ok (q.2.1, q.2.2.1 - q.1) := by decide +kernel
theorem pg_d342_1 : ∀ q ∈ (pg_L342.drop 48).take 48, decode prog_14_method_135_code q.1 = .ok (q.2.1, q.2.2.1 - q.1) := by decide +kernel
theorem pg_d342_2 : ∀ q ∈ (pg_L342.drop 96).take 48, decode prog_14_method_135_code q.1 = .ok (q.2.1, q.2.2.1 - q.1) := by decide +kernel
theorem pg_d342 : ∀ q ∈ pg_L342, decode prog_14_method_135_code q.1 = .ok (q.2.1, q.2.2.1 - q.1) := pg_cut 48 3 pg_L342 (by decide +kernel) (by
  intro c hc
  rcases (show c = 0 ∨ c = 1 ∨ c = 2 by omega) with rfl | rfl | rfl
  · exact pg_d342_0
  · exact pg_d342_1
  · exact pg_d342_2)
theorem pg_d343_0 : ∀ q ∈ (pg_L343.drop 0).take 48, decode prog_14_method_133_code q.1 = .ok (q.2.1, q.2.2.1 - q.1) := by decide +kernel
theorem pg_d343_1 : ∀ q ∈ (pg_L343.drop 48).take 48, decode prog_14_method_133_code q.1 = .ok (q.2.1, q.2.2.1 - q.1) := by decide +kernel
theorem pg_d343 : ∀ q ∈ pg_L343, decode prog_14_method_133_code q.1 = .ok (q.2.1, q.2.2.1 - q.1) := pg_cut 48 2 pg_L343 (by decide +kernel) (by
  intro c hc
  rcases (show c = 0 ∨ c = 1 by omega) with rfl | rfl
  · exact pg_d343_0
  · exact pg_d343_1)
theorem pg_d344_0 : ∀ q ∈ (pg_L344.drop 0).take 48, decode prog_14_method_134_code q.1 = .ok (q.2.1, q.2.2.1 - q.1) := by decide +kernel
theorem pg_d344_1 : ∀ q ∈ (pg_L344.drop 48).take 48, decode prog_14_method_134_code q.1 = .ok (q.2.1, q.2.2.1 - q.1) := by decide +kernel
theorem pg_d344 : ∀ q ∈ pg_L344, decode prog_14_method_134_code q.1 = .ok (q.2.1, q.2.2.1 - q.1) := pg_cut 48 2 pg_L344 (by decide +kernel) (by
  intro c hc
  rcases (show c = 0 ∨ c = 1 by omega) with rfl | rfl
  · exact pg_d344_0
  · exact pg_d344_1)
theorem pg_d345_0 : ∀ q ∈ (pg_L345.drop 0).take 48, decode prog_14_method_137_code q.1 = .ok (q.2.1, q.2.2.1 - q.1) := by decide +kernel
theorem pg_d345_1 : ∀ q ∈ (pg_L345.drop 48).take 48, decode prog_14_method_137_code q.1 = .ok (q.2.1, q.2.2.1 - q.1) := by decide +kernel
theorem pg_d345_2 : ∀ q ∈ (pg_L345.drop 96).take 48, decode prog_14_method_137_code q.1 = .ok (q.2.1, q.2.2.1 - q.1) := by decide +kernel
theorem pg_d345 : ∀ q ∈ pg_L345, decode prog_14_method_137_code q.1 = .ok (q.2.1, q.2.2.1 - q.1) := pg_cut 48 3 pg_L345 (by decide +kernel) (by
  intro c hc
  rcases (show c = 0 ∨ c = 1 ∨ c = 2 by omega) with rfl | rfl | rfl
  · exact pg_d345_0
  · exact pg_d345_1
  · exact pg_d345_2)
theorem pg_d346 : ∀ q ∈ pg_L346, decode prog_14_method_136_code q.1 = .ok (q.2.1, q.2.2.1 - q.1) := by decide +kernel
theorem pg_d347_0 : ∀ q ∈ (pg_L347.drop 0).take 48, decode prog_14_method_138_code q.1 = .ok (q.2.1, q.2.2.1 - q.1) := by decide +kernel
theorem pg_d347_1 : ∀ q ∈ (pg_L347.drop 48).take 48, decode prog_14_method_138_code q.1 = .ok (q.2.1, q.2.2.1 - q.1) := by decide +kernel
theorem pg_d347_2 : ∀ q ∈ (pg_L347.drop 96).take 48, decode prog_14_method_138_code q.1 = .ok (q.2.1, q.2.2.1 - q.1) := by decide +kernel
theorem pg_d347 : ∀ q ∈ pg_L347, decode prog_14_method_138_code q.1 = .ok (q.2.1, q.2.2.1 - q.1) := pg_cut 48 3 pg_L347 (by decide +kernel) (by
  intro c hc
  rcases (show c = 0 ∨ c = 1 ∨ c = 2 by omega) with rfl | rfl | rfl
  · exact pg_d347_0
  · exact pg_d347_1
  · exact pg_d347_2)
theorem pg_d348 : ∀ q ∈ pg_L348, decode prog_14_method_139_code q.1 = .ok (q.2.1, q.2.2.1 - q.1) := by decide +kernel
theorem pg_d349_0 : ∀ q ∈ (pg_L349.drop 0).take 48, decode prog_14_method_146_code q.1 = .ok (q.2.1, q.2.2.1 - q.1) := by decide +kernel
theorem pg_d349_1 : ∀ q ∈ (pg_L349.drop 48).take 48, decode prog_14_method_146_code q.1 = .ok (q.2.1, q.2.2.1 - q.1) := by decide +kernel
theorem pg_d349_2 : ∀ q ∈ (pg_L349.drop 96).take 48, decode prog_14_method_146_code q.1 = .ok (q.2.1, q.2.2.1 - q.1) := by decide +kernel
theorem pg_d349_3 : ∀ q ∈ (pg_L349.drop 144).take 48, decode prog_14_method_146_code q.1 = .ok (q.2.1, q.2.2.1 - q.1) := by decide +kernel
theorem pg_d349_4 : ∀ q ∈ (pg_L349.drop 192).take 48, decode prog_14_method_146_code q.1 = .ok (q.2.1, q.2.2.1 - q.1) := by decide +kernel
theorem pg_d349_5 : ∀ q ∈ (pg_L349.drop 240).take 48, decode prog_14_method_146_code q.1 = .ok (q.2.1, q.2.2.1 - q.1) := by decide +kernel
theorem pg_d349_6 : ∀ q ∈ (pg_L349.drop 288).take 48, decode prog_14_method_146_code q.1 = .ok (q.2.1, q.2.2.1 - q.1) := by decide +kernel
theorem pg_d349 : ∀ q ∈ pg_L349, decode prog_14_method_146_code q.1 = .ok (q.2.1, q.2.2.1 - q.1) := pg_cut 48 7 pg_L349 (by decide +kernel) (by
  intro c hc
  rcases (show c = 0 ∨ c = 1 ∨ c = 2 ∨ c = 3 ∨ c = 4 ∨ c = 5 ∨ c = 6 by omega) with rfl | rfl | rfl | rfl | rfl | rfl | rfl
  · exact pg_d349_0
  · exact pg_d349_1
  · exact pg_d349_2
  · exact pg_d349_3
  · exact pg_d349_4
  · exact pg_d349_5
  · exact pg_d349_6)
theorem pg_d350_0 : ∀ q ∈ (pg_L350.drop 0).take 48, decode prog_14_method_141_code q.1 = .ok (q.2.1, q.2.2.1 - q.1) := by decide +kernel
theorem pg_d350_1 : ∀ q ∈ (pg_L350.drop 48).take 48, decode prog_14_method_141_code q.1 = .ok (q.2.1, q.2.2.1 - q.1) := by decide +kernel
theorem pg_d350 : ∀ q ∈ pg_L350, decode prog_14_method_141_code q.1 = .ok (q.2.1, q.2.2.1 - q.1) := pg_cut 48 2 pg_L350 (by decide +kernel) (by
  intro c hc
  rcases (show c = 0 ∨ c = 1 by omega) with rfl | rfl
  · exact pg_d350_0
  · exact pg_d350_1)
theorem pg_d351 : ∀ q ∈ pg_L351, decode prog_14_method_142_code q.1 = .ok (q.2.1, q.2.2.1 - q.1) := by decide +kernel
theorem pg_d352 : ∀ q ∈ pg_L352, decode prog_14_method_144_code q.1 = .ok (q.2.1, q.2.2.1 - q.1) := by decide +kernel
theorem pg_d353 : ∀ q ∈ pg_L353, decode prog_14_method_143_code q.1 = .ok (q.2.1, q.2.2.1 - q.1) := by decide +kernel
theorem pg_d354 : ∀ q ∈ pg_L354, decode prog_14_method_145_code q.1 = .ok (q.2.1, q.2.2.1 - q.1) := by decide +kernel
theorem pg_d355_0 : ∀ q ∈ (pg_L355.drop 0).take 48, decode prog_14_method_149_code q.1 = .ok (q.2.1, q.2.2.1 - q.1) := by decide +kernel
theorem pg_d355_1 : ∀ q ∈ (pg_L355.drop 48).take 48, decode prog_14_method_149_code q.1 = .ok (q.2.1, q.2.2.1 - q.1) := by decide +kernel
theorem pg_d355_2 : ∀ q ∈ (pg_L355.drop 96).take 48, decode prog_14_method_149_code q.1 = .ok (q.2.1, q.2.2.1 - q.1) := by decide +kernel
theorem pg_d355_3 : ∀ q ∈ (pg_L355.drop 144).take 48, decode prog_14_method_149_code q.1 = .ok (q.2.1, q.2.2.1 - q.1) := by decide +kernel
theorem pg_d355 : ∀ q ∈ pg_L355, decode prog_14_method_149_code q.1 = .ok (q.2.1, q.2.2.1 - q.1) := pg_cut 48 4 pg_L355 (by decide +kernel) (by
  intro c hc
  rcases (show c = 0 ∨ c = 1 ∨ c = 2 ∨ c = 3 by omega) with rfl | rfl | rfl | rfl
  · exact pg_d355_0
  · exact pg_d355_1
  · exact pg_d355_2
  · exact pg_d355_3)
theorem pg_d356 : ∀ q ∈ pg_L356, decode prog_14_method_147_code q.1 = .ok (q.2.1, q.2.2.1 - q.1) := by decide +kernel
theorem pg_d357_0 : ∀ q ∈ (pg_L357.drop 0).take 48, decode prog_14_method_148_code q.1 = .ok (q.2.1, q.2.2.1 - q.1) := by decide +kernel
theorem pg_d357_1 : ∀ q ∈ (pg_L357.drop 48).take 48, decode prog_14_method_148_code q.1 = .ok (q.2.1, q.2.2.1 - q.1) := by decide +kernel
theorem pg_d357 : ∀ q ∈ pg_L357, decode prog_14_method_148_code q.1 = .ok (q.2.1, q.2.2.1 - q.1) := pg_cut 48 2 pg_L357 (by decide +kernel) (by
  intro c hc
  rcases (show c = 0 ∨ c = 1 by omega) with rfl | rfl
  · exact pg_d357_0
  · exact pg_d357_1)
theorem pg_d358_0 : ∀ q ∈ (pg_L358.drop 0).take 48, decode prog_14_method_152_code q.1 = .ok (q.2.1, q.2.2.1 - q.1) := by decide +kernel
theorem pg_d358_1 : ∀ q ∈ (pg_L358.drop 48).take 48, decode prog_14_method_152_code q.1 = .ok (q.2.1, q.2.2.1 - q.1) := by decide +kernel
theorem pg_d358_2 : ∀ q ∈ (pg_L358.drop 96).take 48, decode prog_14_method_152_code q.1 = .ok (q.2.1, q.2.2.1 - q.1) := by decide +kernel
theorem pg_d358_3 : ∀ q ∈ (pg_L358.drop 144).take 48, decode prog_14_method_152_code q.1 = .ok (q.2.1, q.2.2.1 - q.1) := by decide +kernel
theorem pg_d358_4 : ∀ q ∈ (pg_L358.drop 192).take 48, decode prog_14_method_152_code q.1 = .ok (q.2.1, q.2.2.1 - q.1) := by decide +kernel
theorem pg_d358 : ∀ q ∈ pg_L358, decode prog_14_method_152_code q.1 = .ok (q.2.1, q.2.2.1 - q.1) := pg_cut 48 5 pg_L358 (by decide +kernel) (by
  intro c hc
  rcases (show c = 0 ∨ c = 1 ∨ c = 2 ∨ c = 3 ∨ c = 4 by omega) with rfl | rfl | rfl | rfl | rfl
  · exact pg_d358_0
  · exact pg_d358_1
  · exact pg_d358_2
  · exact pg_d358_3
  · exact pg_d358_4)
theorem pg_d359 : ∀ q ∈ pg_L359, decode prog_14_method_150_code q.1 = .ok (q.2.1, q.2.2.1 - q.1) := by decide +kernel
theorem pg_d360 : ∀ q ∈ pg_L360, decode prog_14_method_151_code q.1 = .ok (q.2.1, q.2.2.1 - q.1) := by decide +kernel
theorem pg_d361_0 : ∀ q ∈ (pg_L361.drop 0).take 48, decode prog_14_method_157_code q.1 = .ok (q.2.1, q.2.2.1 - q.1) := by decide +kernel
theorem pg_d361_1 : ∀ q ∈ (pg_L361.drop 48).take 48, decode prog_14_method_157_code q.1 = .ok (q.2.1, q.2.2.1 - q.1) := by decide +kernel
theorem pg_d361_2 : ∀ q ∈ (pg_L361.drop 96).take 48, decode prog_14_method_157_code q.1 = .ok (q.2.1, q.2.2.1 - q.1) := by decide +kernel
theorem pg_d361 : ∀ q ∈ pg_L361, decode prog_14_method_157_code q.1 = .ok (q.2.1, q.2.2.1 - q.1) := pg_cut 48 3 pg_L361 (by decide +kernel) (by
  intro c hc
  rcases (show c = 0 ∨ c = 1 ∨ c = 2 by omega) with rfl | rfl | rfl
  · exact pg_d361_0
  · exact pg_d361_1
  · exact pg_d361_2)
theorem pg_d362_0 : ∀ q ∈ (pg_L362.drop 0).take 48, decode prog_14_method_156_code q.1 = .ok (q.2.1, q.2.2.1 - q.1) := by decide +kernel
theorem pg_d362_1 : ∀ q ∈ (pg_L362.drop 48).take 48, decode prog_14_method_156_code q.1 = .ok (q.2.1, q.2.2.1 - q.1) := by decide +kernel
theorem pg_d362_2 : ∀ q ∈ (pg_L362.drop 96).take 48, decode prog_14_method_156_code q.1 = .ok (q.2.1, q.2.2.1 - q.1) := by decide +kernel
theorem pg_d362 : ∀ q ∈ pg_L362, decode prog_14_method_156_code q.1 = .ok (q.2.1, q.2.2.1 - q.1) := pg_cut 48 3 pg_L362 (by decide +kernel) (by
  intro c hc
  rcases (show c = 0 ∨ c = 1 ∨ c = 2 by omega) with rfl | rfl | rfl
  · exact pg_d362_0
  · exact pg_d362_1
  · exact pg_d362_2)
theorem pg_d363_0 : ∀ q ∈ (pg_L363.drop 0).take 48, decode prog_14_method_154_code q.1 = .ok (q.2.1, q.2.2.1 - q.1) := by decide +kernel
theorem pg_d363_1 : ∀ q ∈ (pg_L363.drop 48).take 48, decode prog_14_method_154_code q.1 = .ok (q.2.1, q.2.2.1 - q.1) := by decide +kernel
theorem pg_d363 : ∀ q ∈ pg_L363, decode prog_14_method_154_code q.1 = .ok (q.2.1, q.2.2.1 - q.1) := pg_cut 48 2 pg_L363 (by decide +kernel) (by
  intro c hc
  rcases (show c = 0 ∨ c = 1 by omega) with rfl | rfl
  · exact pg_d363_0
  · exact pg_d363_1)
theorem pg_d364 : ∀ q ∈ pg_L364, decode prog_14_method_153_code q.1 = .ok (q.2.1, q.2.2.1 - q.1) := by decide +kernel
theorem pg_d365_0 : ∀ q ∈ (pg_L365.drop 0).take 48, decode prog_14_method_155_code q.1 = .ok (q.2.1, q.2.2.1 - q.1) := by decide +kernel
theorem pg_d365_1 : ∀ q ∈ (pg_L365.drop 48).take 48, decode prog_14_method_155_code q.1 = .ok (q.2.1, q.2.2.1 - q.1) := by decide +kernel
theorem pg_d365_2 : ∀ q ∈ (pg_L365.drop 96).take 48, decode prog_14_method_155_code q.1 = .ok (q.2.1, q.2.2.1 - q.1) := by decide +kernel
theorem pg_d365_3 : ∀ q ∈ (pg_L365.drop 144).take 48, decode prog_14_method_155_code q.1 = .ok (q.2.1, q.2.2.1 - q.1) := by decide +kernel
theorem pg_d365 : ∀ q ∈ pg_L365, decode prog_14_method_155_code q.1 = .ok (q.2.1, q.2.2.1 - q.1) := pg_cut 48 4 pg_L365 (by decide +kernel) (by
  intro c hc
  rcases (show c = 0 ∨ c = 1 ∨ c = 2 ∨ c = 3 by omega) with rfl | rfl | rfl | rfl
  · exact pg_d365_0
  · exact pg_d365_1
  · exact pg_d365_2
  · exact pg_d365_3)
theorem pg_d366_0 : ∀ q ∈ (pg_L366.drop 0).take 48, decode prog_14_method_158_code q.1 = .ok (q.2.1, q.2.2.1 - q.1) := by decide +kernel
theorem pg_d366_1 : ∀ q ∈ (pg_L366.drop 48).take 48, decode prog_14_method_158_code q.1 = .ok (q.2.1, q.2.2.1 - q.1) := by decide +kernel
theorem pg_d366_2 : ∀ q ∈ (pg_L366.drop 96).take 48, decode prog_14_method_158_code q.1 = .ok (q.2.1, q.2.2.1 - q.1) := by decide +kernel
theorem pg_d366_3 : ∀ q ∈ (pg_L366.drop 144).take 48, decode prog_14_method_158_code q.1 = .ok (q.2.1, q.2.2.1 - q.1) := by decide +kernel
theorem pg_d366 : ∀ q ∈ pg_L366, decode prog_14_method_158_code q.1 = .ok (q.2.1, q.2.2.1 - q.1) := pg_cut 48 4 pg_L366 (by decide +kernel) (by
  intro c hc
  rcases (show c = 0 ∨ c = 1 ∨ c = 2 ∨ c = 3 by omega) with rfl | rfl | rfl | rfl
  · exact pg_d366_0
  · exact pg_d366_1
  · exact pg_d366_2
  · exact pg_d366_3)
theorem pg_d367_0 : ∀ q ∈ (pg_L367.drop 0).take 48, decode prog_14_method_159_code q.1 = .ok (q.2.1, q.2.2.1 - q.1) := by decide +kernel
theorem pg_d367_1 : ∀ q ∈ (pg_L367.drop 48).take 48, decode prog_14_method_159_code q.1 = .ok (q.2.1, q.2.2.1 - q.1) := by decide +kernel
theorem pg_d367_2 : ∀ q ∈ (pg_L367.drop 96).take 48, decode prog_14_method_159_code q.1 = .ok (q.2.1, q.2.2.1 - q.1) := by decide +kernel
theorem pg_d367 : ∀ q ∈ pg_L367, decode prog_14_method_159_code q.1 = .ok (q.2.1, q.2.2.1 - q.1) := pg_cut 48 3 pg_L367 (by decide +kernel) (by
  intro c hc
  rcases (show c = 0 ∨ c = 1 ∨ c = 2 by omega) with rfl | rfl | rfl
  · exact pg_d367_0
  · exact pg_d367_1
  · exact pg_d367_2)
theorem pg_d368_0 : ∀ q ∈ (pg_L368.drop 0).take 48, decode prog_14_method_160_code q.1 = .ok (q.2.1, q.2.2.1 - q.1) := by decide +kernel
theorem pg_d368_1 : ∀ q ∈ (pg_L368.drop 48).take 48, decode prog_14_method_160_code q.1 = .ok (q.2.1, q.2.2.1 - q.1) := by decide +kernel
theorem pg_d368 : ∀ q ∈ pg_L368, decode prog_14_method_160_code q.1 = .ok (q.2.1, q.2.2.1 - q.1) := pg_cut 48 2 pg_L368 (by decide +kernel) (by
  intro c hc
  rcases (show c = 0 ∨ c = 1 by omega) with rfl | rfl
  · exact pg_d368_0
  · exact pg_d368_1)
theorem pg_d369 : ∀ q ∈ pg_L369, decode prog_14_method_161_code q.1 = .ok (q.2.1, q.2.2.1 - q.1) := by decide +kernel
theorem pg_d370 : ∀ q ∈ pg_L370, decode prog_14_method_162_code q.1 = .ok (q.2.1, q.2.2.1 - q.1) := by decide +kernel
theorem pg_d371 : ∀ q ∈ pg_L371, decode prog_14_method_163_code q.1 = .ok (q.2.1, q.2.2.1 - q.1) := by decide +kernel
theorem pg_d372 : ∀ q ∈ pg_L372, decode prog_14_method_164_code q.1 = .ok (q.2.1, q.2.2.1 - q.1) := by decide +kernel
theorem pg_d373 : ∀ q ∈ pg_L373, decode prog_14_method_165_code q.1 = .ok (q.2.1, q.2.2.1 - q.1) := by decide +kernel
theorem pg_d374_0 : ∀ q ∈ (pg_L374.drop 0).take 48, decode prog_14_method_166_code q.1 = .ok (q.2.1, q.2.2.1 - q.1) := by decide +kernel
theorem pg_d374_1 : ∀ q ∈ (pg_L374.drop 48).take 48, decode prog_14_method_166_code q.1 = .ok (q.2.1, q.2.2.1 - q.1) := by decide +kernel
theorem pg_d374 : ∀ q ∈ pg_L374, decode prog_14_method_166_code q.1 = .ok (q.2.1, q.2.2.1 - q.1) := pg_cut 48 2 pg_L374 (by decide +kernel) (by
  intro c hc
  rcases (show c = 0 ∨ c = 1 by omega) with rfl | rfl
  · exact pg_d374_0
  · exact pg_d374_1)
theorem pg_d375 : ∀ q ∈ pg_L375, decode prog_14_method_167_code q.1 = .ok (q.2.1, q.2.2.1 - q.1) := by decide +kernel
theorem pg_d376 : ∀ q ∈ pg_L376, decode prog_14_method_168_code q.1 = .ok (q.2.1, q.2.2.1 - q.1) := by decide +kernel
theorem pg_d377_0 : ∀ q ∈ (pg_L377.drop 0).take 48, decode prog_14_method_169_code q.1 = .ok (q.2.1, q.2.2.1 - q.1) := by decide +kernel
theorem pg_d377_1 : ∀ q ∈ (pg_L377.drop 48).take 48, decode prog_14_method_169_code q.1 = .ok (q.2.1, q.2.2.1 - q.1) := by decide +kernel
theorem pg_d377_2 : ∀ q ∈ (pg_L377.drop 96).take 48, decode prog_14_method_169_code q.1 = .ok (q.2.1, q.2.2.1 - q.1) := by decide +kernel
theorem pg_d377 : ∀ q ∈ pg_L377, decode prog_14_method_169_code q.1 = .ok (q.2.1, q.2.2.1 - q.1) := pg_cut 48 3 pg_L377 (by decide +kernel) (by
  intro c hc
  rcases (show c = 0 ∨ c = 1 ∨ c = 2 by omega) with rfl | rfl | rfl
  · exact pg_d377_0
  · exact pg_d377_1
  · exact pg_d377_2)
theorem pg_d378 : ∀ q ∈ pg_L378, decode prog_29_method_104_code q.1 = .ok (q.2.1, q.2.2.1 - q.1) := by decide +kernel
theorem pg_d379 : ∀ q ∈ pg_L379, decode prog_29_method_30_code q.1 = .ok (q.2.1, q.2.2.1 - q.1) := by decide +kernel
theorem pg_d380 : ∀ q ∈ pg_L380, decode prog_29_method_101_code q.1 = .ok (q.2.1, q.2.2.1 - q.1) := by decide +kernel
theorem pg_d381 : ∀ q ∈ pg_L381, decode prog_29_method_110_code q.1 = .ok (q.2.1, q.2.2.1 - q.1) := by decide +kernel
theorem pg_d382 : ∀ q ∈ pg_L382, decode method_3_code q.1 = .ok (q.2.1, q.2.2.1 - q.1) := by decide +kernel
theorem pg_d383 : ∀ q ∈ pg_L383, decode method_4_code q.1 = .ok (q.2.1, q.2.2.1 - q.1) := by decide +kernel
theorem pg_d384 : ∀ q ∈ pg_L384, decode method_5_code q.1 = .ok (q.2.1, q.2.2.1 - q.1) := by decide +kernel
theorem pg_d385 : ∀ q ∈ pg_L385, decode method_6_code q.1 = .ok (q.2.1, q.2.2.1 - q.1) := by decide +kernel
theorem pg_d386 : ∀ q ∈ pg_L386, decode method_7_code q.1 = .ok (q.2.1, q.2.2.1 - q.1) := by decide +kernel
theorem pg_d387 : ∀ q ∈ pg_L387, decode method_8_code q.1 = .ok (q.2.1, q.2.2.1 - q.1) := by decide +kernel
theorem pg_d388 : ∀ q ∈ pg_L388, decode method_9_code q.1 = .ok (q.2.1, q.2.2.1 - q.1) := by decide +kernel
theorem pg_d389 : ∀ q ∈ pg_L389, decode method_10_code q.1 = .ok (q.2.1, q.2.2.1 - q.1) := by decide +kernel
theorem pg_d390 : ∀ q ∈ pg_L390, decode method_11_code q.1 = .ok (q.2.1, q.2.2.1 - q.1) := by decide +kernel
theorem pg_d391 : ∀ q ∈ pg_L391, decode method_12_code q.1 = .ok (q.2.1, q.2.2.1 - q.1) := by decide +kernel
theorem pg_d392 : ∀ q ∈ pg_L392, decode method_13_code q.1 = .ok (q.2.1, q.2.2.1 - q.1) := by decide +kernel
theorem pg_d393 : ∀ q ∈ pg_L393, decode method_14_code q.1 = .ok (q.2.1, q.2.2.1 - q.1) := by decide +kernel
theorem pg_d394 : ∀ q ∈ pg_L394, decode method_15_code q.1 = .ok (q.2.1, q.2.2.1 - q.1) := by decide +kernel
theorem pg_d395 : ∀ q ∈ pg_L395, decode method_16_code q.1 = .ok (q.2.1, q.2.2.1 - q.1) := by decide +kernel
theorem pg_d396 : ∀ q ∈ pg_L396, decode method_17_code q.1 = .ok (q.2.1, q.2.2.1 - q.1) := by decide +kernel
theorem pg_d397 : ∀ q ∈ pg_L397, decode method_18_code q.1 = .ok (q.2.1, q.2.2.1 - q.1) := by decide +kernel
theorem pg_d398_0 : ∀ q ∈ (pg_L398.drop 0).take 48, decode code q.1 = .ok (q.2.1, q.2.2.1 - q.1) := by decide +kernel
theorem pg_d398_1 : ∀ q ∈ (pg_L398.drop 48).take 48, decode code q.1 = .ok (q.2.1, q.2.2.1 - q.1) := by decide +kernel
theorem pg_d398_2 : ∀ q ∈ (pg_L398.drop 96).take 48, decode code q.1 = .ok (q.2.1, q.2.2.1 - q.1) := by decide +kernel
theorem pg_d398_3 : ∀ q ∈ (pg_L398.drop 144).take 48, decode code q.1 = .ok (q.2.1, q.2.2.1 - q.1) := by decide +kernel
theorem pg_d398_4 : ∀ q ∈ (pg_L398.drop 192).take 48, decode code q.1 = .ok (q.2.1, q.2.2.1 - q.1) := by decide +kernel
theorem pg_d398_5 : ∀ q ∈ (pg_L398.drop 240).take 48, decode code q.1 = .ok (q.2.1, q.2.2.1 - q.1) := by decide +kernel
theorem pg_d398_6 : ∀ q ∈ (pg_L398.drop 288).take 48, decode code q.1 = .ok (q.2.1, q.2.2.1 - q.1) := by decide +kernel
theorem pg_d398_7 : ∀ q ∈ (pg_L398.drop 336).take 48, decode code q.1 = .ok (q.2.1, q.2.2.1 - q.1) := by decide +kernel
theorem pg_d398_8 : ∀ q ∈ (pg_L398.drop 384).take 48, decode code q.1 = .ok (q.2.1, q.2.2.1 - q.1) := by decide +kernel
theorem pg_d398_9 : ∀ q ∈ (pg_L398.drop 432).take 48, decode code q.1 = .ok (q.2.1, q.2.2.1 - q.1) := by decide +kernel
theorem pg_d398_10 : ∀ q ∈ (pg_L398.drop 480).take 48, decode code q.1 = .ok (q.2.1, q.2.2.1 - q.1) := by decide +kernel
theorem pg_d398_11 : ∀ q ∈ (pg_L398.drop 528).take 48, decode code q.1 = .ok (q.2.1, q.2.2.1 - q.1) := by decide +kernel
theorem pg_d398_12 : ∀ q ∈ (pg_L398.drop 576).take 48, decode code q.1 = .ok (q.2.1, q.2.2.1 - q.1) := by decide +kernel
theorem pg_d398 : ∀ q ∈ pg_L398, decode code q.1 = .ok (q.2.1, q.2.2.1 - q.1) := pg_cut 48 13 pg_L398 (by decide +kernel) (by
  intro c hc
  rcases (show c = 0 ∨ c = 1 ∨ c = 2 ∨ c = 3 ∨ c = 4 ∨ c = 5 ∨ c = 6 ∨ c = 7 ∨ c = 8 ∨ c = 9 ∨ c = 10 ∨ c = 11 ∨ c = 12 by omega) with rfl | rfl | rfl | rfl | rfl | rfl | rfl | rfl | rfl | rfl | rfl | rfl | rfl
  · exact pg_d398_0
  · exact pg_d398_1
  · exact pg_d398_2
  · exact pg_d398_3
  · exact pg_d398_4
  · exact pg_d398_5
  · exact pg_d398_6
  · exact pg_d398_7
  · exact pg_d398_8
  · exact pg_d398_9
  · exact pg_d398_10
  · exact pg_d398_11
  · exact pg_d398_12)
