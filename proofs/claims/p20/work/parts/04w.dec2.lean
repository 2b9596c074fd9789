theorem pg_d160 : ∀ q ∈ pg_L160, decode prog_10_method_1_code q.1 = .ok (q.2.1, q.2.2.1 - q.1) := by decide +kernel
theorem pg_d161 : ∀ q ∈ pg_L161, decode prog_10_method_2_code q.1 = .ok (q.2.1, q.2.2.1 - q.1) := by decide +kernel
theorem pg_d162 : ∀ q ∈ pg_L162, decode prog_10_method_3_code q.1 = .ok (q.2.1, q.2.2.1 - q.1) := by decide +kernel
theorem pg_d163_0 : ∀ q ∈ (pg_L163.drop 0).take 48, decode prog_10_method_4_code q.1 = .ok (q.2.1, q.2.2.1 - q.1) := by decide +kernel
theorem pg_d163_1 : ∀ q ∈ (pg_L163.drop 48).take 48, decode prog_10_method_4_code q.1 = .ok (q.2.1, q.2.2.1 - q.1) := by decide +kernel
theorem pg_d163_2 : ∀ q ∈ (pg_L163.drop 96).take 48, decode prog_10_method_4_code q.1 = .ok (q.2.1, q.2.2.1 - q.1) := by decide +kernel
theorem pg_d163 : ∀ q ∈ pg_L163, decode prog_10_method_4_code q.1 = .ok (q.2.1, q.2.2.1 - q.1) := pg_cut 48 3 pg_L163 (by decide +kernel) (by
  intro c hc
  rcases (show c = 0 ∨ c = 1 ∨ c = 2 by omega) with rfl | rfl | rfl
  · exact pg_d163_0
  · exact pg_d163_1
  · exact pg_d163_2)
theorem pg_d164_0 : ∀ q ∈ (pg_L164.drop 0).take 48, decode prog_10_method_5_code q.1 = .ok (q.2.1, q.2.2.1 - q.1) := by decide +kernel
theorem pg_d164_1 : ∀ q ∈ (pg_L164.drop 48).take 48, decode prog_10_method_5_code q.1 = .ok (q.2.1, q.2.2.1 - q.1) := by decide +kernel
theorem pg_d164 : ∀ q ∈ pg_L164, decode prog_10_method_5_code q.1 = .ok (q.2.1, q.2.2.1 - q.1) := pg_cut 48 2 pg_L164 (by decide +kernel) (by
  intro c hc
  rcases (show c = 0 ∨ c = 1 by omega) with rfl | rfl
  · exact pg_d164_0
  · exact pg_d164_1)
theorem pg_d165_0 : ∀ q ∈ (pg_L165.drop 0).take 48, decode prog_10_method_6_code q.1 = .ok (q.2.1, q.2.2.1 - q.1) := by decide +kernel
theorem pg_d165_1 : ∀ q ∈ (pg_L165.drop 48).take 48, decode prog_10_method_6_code q.1 = .ok (q.2.1, q.2.2.1 - q.1) := by decide +kernel
theorem pg_d165_2 : ∀ q ∈ (pg_L165.drop 96).take 48, decode prog_10_method_6_code q.1 = .ok (q.2.1, q.2.2.1 - q.1) := by decide +kernel
theorem pg_d165 : ∀ q ∈ pg_L165, decode prog_10_method_6_code q.1 = .ok (q.2.1, q.2.2.1 - q.1) := pg_cut 48 3 pg_L165 (by decide +kernel) (by
  intro c hc
  rcases (show c = 0 ∨ c = 1 ∨ c = 2 by omega) with rfl | rfl | rfl
  · exact pg_d165_0
  · exact pg_d165_1
  · exact pg_d165_2)
theorem pg_d166 : ∀ q ∈ pg_L166, decode prog_11_method_1_code q.1 = .ok (q.2.1, q.2.2.1 - q.1) := by decide +kernel
theorem pg_d167 : ∀ q ∈ pg_L167, decode prog_11_method_3_code q.1 = .ok (q.2.1, q.2.2.1 - q.1) := by decide +kernel
theorem pg_d168 : ∀ q ∈ pg_L168, decode prog_11_method_2_code q.1 = .ok (q.2.1, q.2.2.1 - q.1) := by decide +kernel
theorem pg_d169 : ∀ q ∈ pg_L169, decode prog_11_method_10_code q.1 = .ok (q.2.1, q.2.2.1 - q.1) := by decide +kernel
theorem pg_d170 : ∀ q ∈ pg_L170, decode prog_11_method_8_code q.1 = .ok (q.2.1, q.2.2.1 - q.1) := by decide +kernel
theorem pg_d171 : ∀ q ∈ pg_L171, decode prog_11_method_14_code q.1 = .ok (q.2.1, q.2.2.1 - q.1) := by decide +kernel
theorem pg_d172 : ∀ q ∈ pg_L172, decode prog_11_method_16_code q.1 = .ok (q.2.1, q.2.2.1 - q.1) := by decide +kernel
theorem pg_d173 : ∀ q ∈ pg_L173, decode prog_11_method_13_code q.1 = .ok (q.2.1, q.2.2.1 - q.1) := by decide +kernel
theorem pg_d174 : ∀ q ∈ pg_L174, decode prog_11_method_15_code q.1 = .ok (q.2.1, q.2.2.1 - q.1) := by decide +kernel
theorem pg_d175 : ∀ q ∈ pg_L175, decode prog_11_method_11_code q.1 = .ok (q.2.1, q.2.2.1 - q.1) := by decide +kernel
theorem pg_d176 : ∀ q ∈ pg_L176, decode prog_11_method_9_code q.1 = .ok (q.2.1, q.2.2.1 - q.1) := by decide +kernel
theorem pg_d177 : ∀ q ∈ pg_L177, decode prog_11_method_4_code q.1 = .ok (q.2.1, q.2.2.1 - q.1) := by decide +kernel
theorem pg_d178 : ∀ q ∈ pg_L178, decode prog_11_method_6_code q.1 = .ok (q.2.1, q.2.2.1 - q.1) := by decide +kernel
theorem pg_d179 : ∀ q ∈ pg_L179, decode prog_11_method_7_code q.1 = .ok (q.2.1, q.2.2.1 - q.1) := by decide +kernel
theorem pg_d180 : ∀ q ∈ pg_L180, decode prog_11_method_5_code q.1 = .ok (q.2.1, q.2.2.1 - q.1) := by decide +kernel
theorem pg_d181 : ∀ q ∈ pg_L181, decode prog_11_method_12_code q.1 = .ok (q.2.1, q.2.2.1 - q.1) := by decide +kernel
theorem pg_d182 : ∀ q ∈ pg_L182, decode prog_12_method_1_code q.1 = .ok (q.2.1, q.2.2.1 - q.1) := by decide +kernel
theorem pg_d183_0 : ∀ q ∈ (pg_L183.drop 0).take 48, decode prog_12_method_10_code q.1 = .ok (q.2.1, q.2.2.1 - q.1) := by decide +kernel
theorem pg_d183_1 : ∀ q ∈ (pg_L183.drop 48).take 48, decode prog_12_method_10_code q.1 = .ok (q.2.1, q.2.2.1 - q.1) := by decide +kernel
theorem pg_d183_2 : ∀ q ∈ (pg_L183.drop 96).take 48, decode prog_12_method_10_code q.1 = .ok (q.2.1, q.2.2.1 - q.1) := by decide +kernel
theorem pg_d183 : ∀ q ∈ pg_L183, decode prog_12_method_10_code q.1 = .ok (q.2.1, q.2.2.1 - q.1) := pg_cut 48 3 pg_L183 (by decide +kernel) (by
  intro c hc
  rcases (show c = 0 ∨ c = 1 ∨ c = 2 by omega) with rfl | rfl | rfl
  · exact pg_d183_0
  · exact pg_d183_1
  · exact pg_d183_2)
theorem pg_d184_0 : ∀ q ∈ (pg_L184.drop 0).take 48, decode prog_12_method_11_code q.1 = .ok (q.2.1, q.2.2.1 - q.1) := by decide +kernel
theorem pg_d184_1 : ∀ q ∈ (pg_L184.drop 48).take 48, decode prog_12_method_11_code q.1 = .ok (q.2.1, q.2.2.1 - q.1) := by decide +kernel
theorem pg_d184 : ∀ q ∈ pg_L184, decode prog_12_method_11_code q.1 = .ok (q.2.1, q.2.2.1 - q.1) := pg_cut 48 2 pg_L184 (by decide +kernel) (by
  intro c hc
  rcases (show c = 0 ∨ c = 1 by omega) with rfl | rfl
  · exact pg_d184_0
  · exact pg_d184_1)
theorem pg_d185_0 : ∀ q ∈ (pg_L185.drop 0).take 48, decode prog_12_method_12_code q.1 = .ok (q.2.1, q.2.2.1 - q.1) := by decide +kernel
theorem pg_d185_1 : ∀ q ∈ (pg_L185.drop 48).take 48, decode prog_12_method_12_code q.1 = .ok (q.2.1, q.2.2.1 - q.1) := by decide +kernel
theorem pg_d185_2 : ∀ q ∈ (pg_L185.drop 96).take 48, decode prog_12_method_12_code q.1 = .ok (q.2.1, q.2.2.1 - q.1) := by decide +kernel
theorem pg_d185_3 : ∀ q ∈ (pg_L185.drop 144).take 48, decode prog_12_method_12_code q.1 = .ok (q.2.1, q.2.2.1 - q.1) := by decide +kernel
theorem pg_d185 : ∀ q ∈ pg_L185, decode prog_12_method_12_code q.1 = .ok (q.2.1, q.2.2.1 - q.1) := pg_cut 48 4 pg_L185 (by decide +kernel) (by
  intro c hc
  rcases (show c = 0 ∨ c = 1 ∨ c = 2 ∨ c = 3 by omega) with rfl | rfl | rfl | rfl
  · exact pg_d185_0
  · exact pg_d185_1
  · exact pg_d185_2
  · exact pg_d185_3)
theorem pg_d186 : ∀ q ∈ pg_L186, decode prog_12_method_13_code q.1 = .ok (q.2.1, q.2.2.1 - q.1) := by decide +kernel
theorem pg_d187_0 : ∀ q ∈ (pg_L187.drop 0).take 48, decode prog_12_method_14_code q.1 = .ok (q.2.1, q.2.2.1 - q.1) := by decide +kernel
theorem pg_d187_1 : ∀ q ∈ (pg_L187.drop 48).take 48, decode prog_12_method_14_code q.1 = .ok (q.2.1, q.2.2.1 - q.1) := by decide +kernel
theorem pg_d187 : ∀ q ∈ pg_L187, decode prog_12_method_14_code q.1 = .ok (q.2.1, q.2.2.1 - q.1) := pg_cut 48 2 pg_L187 (by decide +kernel) (by
  intro c hc
  rcases (show c = 0 ∨ c = 1 by omega) with rfl | rfl
  · exact pg_d187_0
  · exact pg_d187_1)
theorem pg_d188 : ∀ q ∈ pg_L188, decode prog_12_method_17_code q.1 = .ok (q.2.1, q.2.2.1 - q.1) := by decide +kernel
theorem pg_d189 : ∀ q ∈ pg_L189, decode prog_12_method_18_code q.1 = .ok (q.2.1, q.2.2.1 - q.1) := by decide +kernel
theorem pg_d190 : ∀ q ∈ pg_L190, decode prog_12_method_19_code q.1 = .ok (q.2.1, q.2.2.1 - q.1) := by decide +kernel
theorem pg_d191_0 : ∀ q ∈ (pg_L191.drop 0).take 48, decode prog_12_method_15_code q.1 = .ok (q.2.1, q.2.2.1 - q.1) := by decide +kernel
theorem pg_d191_1 : ∀ q ∈ (pg_L191.drop 48).take 48, decode prog_12_method_15_code q.1 = .ok (q.2.1, q.2.2.1 - q.1) := by decide +kernel
theorem pg_d191_2 : ∀ q ∈ (pg_L191.drop 96).take 48, decode prog_12_method_15_code q.1 = .ok (q.2.1, q.2.2.1 - q.1) := by decide +kernel
theorem pg_d191 : ∀ q ∈ pg_L191, decode prog_12_method_15_code q.1 = .ok (q.2.1, q.2.2.1 - q.1) := pg_cut 48 3 pg_L191 (by decide +kernel) (by
  intro c hc
  rcases (show c = 0 ∨ c = 1 ∨ c = 2 by omega) with rfl | rfl | rfl
  · exact pg_d191_0
  · exact pg_d191_1
  · exact pg_d191_2)
theorem pg_d192 : ∀ q ∈ pg_L192, decode prog_12_method_16_code q.1 = .ok (q.2.1, q.2.2.1 - q.1) := by decide +kernel
theorem pg_d193_0 : ∀ q ∈ (pg_L193.drop 0).take 48, decode prog_12_method_20_code q.1 = .ok (q.2.1, q.2.2.1 - q.1) := by decide +kernel
theorem pg_d193_1 : ∀ q ∈ (pg_L193.drop 48).take 48, decode prog_12_method_20_code q.1 = .ok (q.2.1, q.2.2.1 - q.1) := by decide +kernel
theorem pg_d193_2 : ∀ q ∈ (pg_L193.drop 96).take 48, decode prog_12_method_20_code q.1 = .ok (q.2.1, q.2.2.1 - q.1) := by decide +kernel
theorem pg_d193 : ∀ q ∈ pg_L193, decode prog_12_method_20_code q.1 = .ok (q.2.1, q.2.2.1 - q.1) := pg_cut 48 3 pg_L193 (by decide +kernel) (by
  intro c hc
  rcases (show c = 0 ∨ c = 1 ∨ c = 2 by omega) with rfl | rfl | rfl
  · exact pg_d193_0
  · exact pg_d193_1
  · exact pg_d193_2)
theorem pg_d194_0 : ∀ q ∈ (pg_L194.drop 0).take 48, decode prog_12_method_21_code q.1 = .ok (q.2.1, q.2.2.1 - q.1) := by decide +kernel
theorem pg_d194_1 : ∀ q ∈ (pg_L194.drop 48).take 48, decode prog_12_method_21_code q.1 = .ok (q.2.1, q.2.2.1 - q.1) := by decide +kernel
theorem pg_d194 : ∀ q ∈ pg_L194, decode prog_12_method_21_code q.1 = .ok (q.2.1, q.2.2.1 - q.1) := pg_cut 48 2 pg_L194 (by decide +kernel) (by
  intro c hc
  rcases (show c = 0 ∨ c = 1 by omega) with rfl | rfl
  · exact pg_d194_0
  · exact pg_d194_1)
theorem pg_d195 : ∀ q ∈ pg_L195, decode prog_12_method_23_code q.1 = .ok (q.2.1, q.2.2.1 - q.1) := by decide +kernel
theorem pg_d196 : ∀ q ∈ pg_L196, decode prog_12_method_22_code q.1 = .ok (q.2.1, q.2.2.1 - q.1) := by decide +kernel
theorem pg_d197_0 : ∀ q ∈ (pg_L197.drop 0).take 48, decode prog_12_method_24_code q.1 = .ok (q.2.1, q.2.2.1 - q.1) := by decide +kernel
theorem pg_d197_1 : ∀ q ∈ (pg_L197.drop 48).take 48, decode prog_12_method_24_code q.1 = .ok (q.2.1, q.2.2.1 - q.1) := by decide +kernel
theorem pg_d197 : ∀ q ∈ pg_L197, decode prog_12_method_24_code q.1 = .ok (q.2.1, q.2.2.1 - q.1) := pg_cut 48 2 pg_L197 (by decide +kernel) (by
  intro c hc
  rcases (show c = 0 ∨ c = 1 by omega) with rfl | rfl
  · exact pg_d197_0
  · exact pg_d197_1)
theorem pg_d198_0 : ∀ q ∈ (pg_L198.drop 0).take 48, decode prog_12_method_5_code q.1 = .ok (q.2.1, q.2.2.1 - q.1) := by decide +kernel
theorem pg_d198_1 : ∀ q ∈ (pg_L198.drop 48).take 48, decode prog_12_method_5_code q.1 = .ok (q.2.1, q.2.2.1 - q.1) := by decide +kernel
theorem pg_d198 : ∀ q ∈ pg_L198, decode prog_12_method_5_code q.1 = .ok (q.2.1, q.2.2.1 - q.1) := pg_cut 48 2 pg_L198 (by decide +kernel) (by
  intro c hc
  rcases (show c = 0 ∨ c = 1 by omega) with rfl | rfl
  · exact pg_d198_0
  · exact pg_d198_1)
theorem pg_d199 : ∀ q ∈ pg_L199, decode prog_12_method_6_code q.1 = .ok (q.2.1, q.2.2.1 - q.1) := by decide +kernel
theorem pg_d200_0 : ∀ q ∈ (pg_L200.drop 0).take 48, decode prog_12_method_7_code q.1 = .ok (q.2.1, q.2.2.1 - q.1) := by decide +kernel
theorem pg_d200_1 : ∀ q ∈ (pg_L200.drop 48).take 48, decode prog_12_method_7_code q.1 = .ok (q.2.1, q.2.2.1 - q.1) := by decide +kernel
theorem pg_d200_2 : ∀ q ∈ (pg_L200.drop 96).take 48, decode prog_12_method_7_code q.1 = .ok (q.2.1, q.2.2.1 - q.1) := by decide +kernel
theorem pg_d200 : ∀ q ∈ pg_L200, decode prog_12_method_7_code q.1 = .ok (q.2.1, q.2.2.1 - q.1) := pg_cut 48 3 pg_L200 (by decide +kernel) (by
  intro c hc
  rcases (show c = 0 ∨ c = 1 ∨ c = 2 by omega) with rfl | rfl | rfl
  · exact pg_d200_0
  · exact pg_d200_1
  · exact pg_d200_2)
theorem pg_d201 : ∀ q ∈ pg_L201, decode prog_12_method_9_code q.1 = .ok (q.2.1, q.2.2.1 - q.1) := by decide +kernel
theorem pg_d202_0 : ∀ q ∈ (pg_L202.drop 0).take 48, decode prog_12_method_8_code q.1 = .ok (q.2.1, q.2.2.1 - q.1) := by decide +kernel
theorem pg_d202_1 : ∀ q ∈ (pg_L202.drop 48).take 48, decode prog_12_method_8_code q.1 = .ok (q.2.1, q.2.2.1 - q.1) := by decide +kernel
theorem pg_d202 : ∀ q ∈ pg_L202, decode prog_12_method_8_code q.1 = .ok (q.2.1, q.2.2.1 - q.1) := pg_cut 48 2 pg_L202 (by decide +kernel) (by
  intro c hc
  rcases (show c = 0 ∨ c = 1 by omega) with rfl | rfl
  · exact pg_d202_0
  · exact pg_d202_1)
theorem pg_d203_0 : ∀ q ∈ (pg_L203.drop 0).take 48, decode prog_12_method_25_code q.1 = .ok (q.2.1, q.2.2.1 - q.1) := by decide +kernel
theorem pg_d203_1 : ∀ q ∈ (pg_L203.drop 48).take 48, decode prog_12_method_25_code q.1 = .ok (q.2.1, q.2.2.1 - q.1) := by decide +kernel
theorem pg_d203_2 : ∀ q ∈ (pg_L203.drop 96).take 48, decode prog_12_method_25_code q.1 = .ok (q.2.1, q.2.2.1 - q.1) := by decide +kernel
theorem pg_d203_3 : ∀ q ∈ (pg_L203.drop 144).take 48, decode prog_12_method_25_code q.1 = .ok (q.2.1, q.2.2.1 - q.1) := by decide +kernel
theorem pg_d203 : ∀ q ∈ pg_L203, decode prog_12_method_25_code q.1 = .ok (q.2.1, q.2.2.1 - q.1) := pg_cut 48 4 pg_L203 (by decide +kernel) (by
  intro c hc
  rcases (show c = 0 ∨ c = 1 ∨ c = 2 ∨ c = 3 by omega) with rfl | rfl | rfl | rfl
  · exact pg_d203_0
  · exact pg_d203_1
  · exact pg_d203_2
  · exact pg_d203_3)
theorem pg_d204_0 : ∀ q ∈ (pg_L204.drop 0).take 48, decode prog_12_method_26_code q.1 = .ok (q.2.1, q.2.2.1 - q.1) := by decide +kernel
theorem pg_d204_1 : ∀ q ∈ (pg_L204.drop 48).take 48, decode prog_12_method_26_code q.1 = .ok (q.2.1, q.2.2.1 - q.1) := by decide +kernel
theorem pg_d204 : ∀ q ∈ pg_L204, decode prog_12_method_26_code q.1 = .ok (q.2.1, q.2.2.1 - q.1) := pg_cut 48 2 pg_L204 (by decide +kernel) (by
  intro c hc
  rcases (show c = 0 ∨ c = 1 by omega) with rfl | rfl
  · exact pg_d204_0
  · exact pg_d204_1)
theorem pg_d205_0 : ∀ q ∈ (pg_L205.drop 0).take 48, decode prog_12_method_27_code q.1 = .ok (q.2.1, q.2.2.1 - q.1) := by decide +kernel
theorem pg_d205_1 : ∀ q ∈ (pg_L205.drop 48).take 48, decode prog_12_method_27_code q.1 = .ok (q.2.1, q.2.2.1 - q.1) := by decide +kernel
theorem pg_d205 : ∀ q ∈ pg_L205, decode prog_12_method_27_code q.1 = .ok (q.2.1, q.2.2.1 - q.1) := pg_cut 48 2 pg_L205 (by decide +kernel) (by
  intro c hc
  rcases (show c = 0 ∨ c = 1 by omega) with rfl | rfl
  · exact pg_d205_0
  · exact pg_d205_1)
theorem pg_d206_0 : ∀ q ∈ (pg_L206.drop 0).take 48, decode prog_12_method_2_code q.1 = .ok (q.2.1, q.2.2.1 - q.1) := by decide +kernel
theorem pg_d206_1 : ∀ q ∈ (pg_L206.drop 48).take 48, decode prog_12_method_2_code q.1 = .ok (q.2.1, q.2.2.1 - q.1) := by decide +kernel
theorem pg_d206 : ∀ q ∈ pg_L206, decode prog_12_method_2_code q.1 = .ok (q.2.1, q.2.2.1 - q.1) := pg_cut 48 2 pg_L206 (by decide +kernel) (by
  intro c hc
  rcases (show c = 0 ∨ c = 1 by omega) with rfl | rfl
  · exact pg_d206_0
  · exact pg_d206_1)
theorem pg_d207_0 : ∀ q ∈ (pg_L207.drop 0).take 48, decode prog_12_method_3_code q.1 = .ok (q.2.1, q.2.2.1 - q.1) := by decide +kernel
theorem pg_d207_1 : ∀ q ∈ (pg_L207.drop 48).take 48, decode prog_12_method_3_code q.1 = .ok (q.2.1, q.2.2.1 - q.1) := by decide +kernel
theorem pg_d207 : ∀ q ∈ pg_L207, decode prog_12_method_3_code q.1 = .ok (q.2.1, q.2.2.1 - q.1) := pg_cut 48 2 pg_L207 (by decide +kernel) (by
  intro c hc
  rcases (show c = 0 ∨ c = 1 by omega) with rfl | rfl
  · exact pg_d207_0
  · exact pg_d207_1)
theorem pg_d208_0 : ∀ q ∈ (pg_L208.drop 0).take 48, decode prog_12_method_4_code q.1 = .ok (q.2.1, q.2.2.1 - q.1) := by decide +kernel
theorem pg_d208_1 : ∀ q ∈ (pg_L208.drop 48).take 48, decode prog_12_method_4_code q.1 = .ok (q.2.1, q.2.2.1 - q.1) := by decide +kernel
theorem pg_d208_2 : ∀ q ∈ (pg_L208.drop 96).take 48, decode prog_12_method_4_code q.1 = .ok (q.2.1, q.2.2.1 - q.1) := by decide +kernel
theorem pg_d208 : ∀ q ∈ pg_L208, decode prog_12_method_4_code q.1 = .ok (q.2.1, q.2.2.1 - q.1) := pg_cut 48 3 pg_L208 (by decide +kernel) (by
  intro c hc
  rcases (show c = 0 ∨ c = 1 ∨ c = 2 by omega) with rfl | rfl | rfl
  · exact pg_d208_0
  · exact pg_d208_1
  · exact pg_d208_2)
theorem pg_d209_0 : ∀ q ∈ (pg_L209.drop 0).take 48, decode prog_14_method_1_code q.1 = .ok (q.2.1, q.2.2.1 - q.1) := by decide +kernel
theorem pg_d209_1 : ∀ q ∈ (pg_L209.drop 48).take 48, decode prog_14_method_1_code q.1 = .ok (q.2.1, q.2.2.1 - q.1) := by decide +kernel
theorem pg_d209_2 : ∀ q ∈ (pg_L209.drop 96).take 48, decode prog_14_method_1_code q.1 = .ok (q.2.1, q.2.2.1 - q.1) := by decide +kernel
theorem pg_d209_3 : ∀ q ∈ (pg_L209.drop 144).take 48, decode prog_14_method_1_code q.1 = .ok (q.2.1, q.2.2.1 - q.1) := by decide +kernel
theorem pg_d209_4 : ∀ q ∈ (pg_L209.drop 192).take 48, decode prog_14_method_1_code q.1 = .ok (q.2.1, q.2.2.1 - q.1) := by decide +kernel
theorem pg_d209_5 : ∀ q ∈ (pg_L209.drop 240).take 48, decode prog_14_method_1_code q.1 = .ok (q.2.1, q.2.2.1 - q.1) := by decide +kernel
theorem pg_d209_6 : ∀ q ∈ (pg_L209.drop 288).take 48, decode prog_14_method_1_code q.1 = .ok (q.2.1, q.2.2.1 - q.1) := by decide +kernel
theorem pg_d209_7 : ∀ q ∈ (pg_L209.drop 336).take 48, decode prog_14_method_1_code q.1 = .ok (q.2.1, q.2.2.1 - q.1) := by decide +kernel
theorem pg_d209_8 : ∀ q ∈ (pg_L209.drop 384).take 48, decode prog_14_method_1_code q.1 = .ok (q.2.1, q.2.2.1 - q.1) := by decide +kernel
theorem pg_d209_9 : ∀ q ∈ (pg_L209.drop 432).take 48, decode prog_14_method_1_code q.1 = .ok (q.2.1, q.2.2.1 - q.1) := by decide +kernel
theorem pg_d209_10 : ∀ q ∈ (pg_L209.drop 480).take 48, decode prog_14_method_1_code q.1 = .ok (q.2.1, q.2.2.1 - q.1) := by decide +kernel
theorem pg_d209 : ∀ q ∈ pg_L209, decode prog_14_method_1_code q.1 = .ok (q.2.1, q.2.2.1 - q.1) := pg_cut 48 11 pg_L209 (by decide +kernel) (by
  intro c hc
  rcases (show c = 0 ∨ c = 1 ∨ c = 2 ∨ c = 3 ∨ c = 4 ∨ c = 5 ∨ c = 6 ∨ c = 7 ∨ c = 8 ∨ c = 9 ∨ c = 10 by omega) with rfl | rfl | rfl | rfl | rfl | rfl | rfl | rfl | rfl | rfl | rfl
  · exact pg_d209_0
  · exact pg_d209_1
  · exact pg_d209_2
  · exact pg_d209_3
  · exact pg_d209_4
  · exact pg_d209_5
  · exact pg_d209_6
  · exact pg_d209_7
  · exact pg_d209_8
  · exact pg_d209_9
  · exact pg_d209_10)
theorem pg_d210 : ∀ q ∈ pg_L210, decode prog_14_method_2_code q.1 = .ok (q.2.1, q.2.2.1 - q.1) := by decide +kernel
theorem pg_d211_0 : ∀ q ∈ (pg_L211.drop 0).take 48, decode prog_14_method_4_code q.1 = .ok (q.2.1, q.2.2.1 - q.1) := by decide +kernel
theorem pg_d211_1 : ∀ q ∈ (pg_L211.drop 48).take 48, decode prog_14_method_4_code q.1 = .ok (q.2.1, q.2.2.1 - q.1) := by decide +kernel
theorem pg_d211 : ∀ q ∈ pg_L211, decode prog_14_method_4_code q.1 = .ok (q.2.1, q.2.2.1 - q.1) := pg_cut 48 2 pg_L211 (by decide +kernel) (by
  intro c hc
  rcases (show c = 0 ∨ c = 1 by omega) with rfl | rfl
  · exact pg_d211_0
  · exact pg_d211_1)
theorem pg_d212 : ∀ q ∈ pg_L212, decode prog_14_method_3_code q.1 = .ok (q.2.1, q.2.2.1 - q.1) := by decide +kernel
theorem pg_d213_0 : ∀ q ∈ (pg_L213.drop 0).take 48, decode prog_14_method_47_code q.1 = .ok (q.2.1, q.2.2.1 - q.1) := by decide +kernel
theorem pg_d213_1 : ∀ q ∈ (pg_L213.drop 48).take 48, decode prog_14_method_47_code q.1 = .ok (q.2.1, q.2.2.1 - q.1) := by decide +kernel
theorem pg_d213 : ∀ q ∈ pg_L213, decode prog_14_method_47_code q.1 = .ok (q.2.1, q.2.2.1 - q.1) := pg_cut 48 2 pg_L213 (by decide +kernel) (by
  intro c hc
  rcases (show c = 0 ∨ c = 1 by omega) with rfl | rfl
  · exact pg_d213_0
  · exact pg_d213_1)
theorem pg_d214_0 : ∀ q ∈ (pg_L214.drop 0).take 48, decode prog_14_method_46_code q.1 = .ok (q.2.1, q.2.2.1 - q.1) := by decide +kernel
theorem pg_d214_1 : ∀ q ∈ (pg_L214.drop 48).take 48, decode prog_14_method_46_code q.1 = .ok (q.2.1, q.2.2.1 - q.1) := by decide +kernel
theorem pg_d214_2 : ∀ q ∈ (pg_L214.drop 96).take 48, decode prog_14_method_46_code q.1 = .ok (q.2.1, q.2.2.1 - q.1) := by decide +kernel
theorem pg_d214 : ∀ q ∈ pg_L214, decode prog_14_method_46_code q.1 = .ok (q.2.1, q.2.2.1 - q.1) := pg_cut 48 3 pg_L214 (by decide +kernel) (by
  intro c hc
  rcases (show c = 0 ∨ c = 1 ∨ c = 2 by omega) with rfl | rfl | rfl
  · exact pg_d214_0
  · exact pg_d214_1
  · exact pg_d214_2)
theorem pg_d215 : ∀ q ∈ pg_L215, decode prog_14_method_5_code q.1 = .ok (q.2.1, q.2.2.1 - q.1) := by decide +kernel
theorem pg_d216_0 : ∀ q ∈ (pg_L216.drop 0).take 48, decode prog_14_method_44_code q.1 = .ok (q.2.1, q.2.2.1 - q.1) := by decide +kernel
theorem pg_d216_1 : ∀ q ∈ (pg_L216.drop 48).take 48, decode prog_14_method_44_code q.1 = .ok (q.2.1, q.2.2.1 - q.1) := by decide +kernel
theorem pg_d216 : ∀ q ∈ pg_L216, decode prog_14_method_44_code q.1 = .ok (q.2.1, q.2.2.1 - q.1) := pg_cut 48 2 pg_L216 (by decide +kernel) (by
  intro c hc
  rcases (show c = 0 ∨ c = 1 by omega) with rfl | rfl
  · exact pg_d216_0
  · exact pg_d216_1)
theorem pg_d217_0 : ∀ q ∈ (pg_L217.drop 0).take 48, decode prog_14_method_28_code q.1 = .ok (q.2.1, q.2.2.1 - q.1) := by decide +kernel
theorem pg_d217_1 : ∀ q ∈ (pg_L217.drop 48).take 48, decode prog_14_method_28_code q.1 = .ok (q.2.1, q.2.2.1 - q.1) := by decide +kernel
theorem pg_d217 : ∀ q ∈ pg_L217, decode prog_14_method_28_code q.1 = .ok (q.2.1, q.2.2.1 - q.1) := pg_cut 48 2 pg_L217 (by decide +kernel) (by
  intro c hc
  rcases (show c = 0 ∨ c = 1 by omega) with rfl | rfl
  · exact pg_d217_0
  · exact pg_d217_1)
theorem pg_d218 : ∀ q ∈ pg_L218, decode prog_14_method_6_code q.1 = .ok (q.2.1, q.2.2.1 - q.1) := by decide +kernel
theorem pg_d219 : ∀ q ∈ pg_L219, decode prog_14_method_27_code q.1 = .ok (q.2.1, q.2.2.1 - q.1) := by decide +kernel
theorem pg_d220 : ∀ q ∈ pg_L220, decode prog_14_method_8_code q.1 = .ok (q.2.1, q.2.2.1 - q.1) := by decide +kernel
theorem pg_d221 : ∀ q ∈ pg_L221, decode prog_14_method_7_code q.1 = .ok (q.2.1, q.2.2.1 - q.1) := by decide +kernel
theorem pg_d222_0 : ∀ q ∈ (pg_L222.drop 0).take 48, decode prog_14_method_29_code q.1 = .ok (q.2.1, q.2.2.1 - q.1) := by decide +kernel
theorem pg_d222_1 : ∀ q ∈ (pg_L222.drop 48).take 48, decode prog_14_method_29_code q.1 = .ok (q.2.1, q.2.2.1 - q.1) := by decide +kernel
theorem pg_d222 : ∀ q ∈ pg_L222, decode prog_14_method_29_code q.1 = .ok (q.2.1, q.2.2.1 - q.1) := pg_cut 48 2 pg_L222 (by decide +kernel) (by
  intro c hc
  rcases (show c = 0 ∨ c = 1 by omega) with rfl | rfl
  · exact pg_d222_0
  · exact pg_d222_1)
theorem pg_d223 : ∀ q ∈ pg_L223, decode prog_14_method_10_code q.1 = .ok (q.2.1, q.2.2.1 - q.1) := by decide +kernel
theorem pg_d224 : ∀ q ∈ pg_L224, decode prog_14_method_11_code q.1 = .ok (q.2.1, q.2.2.1 - q.1) := by decide +kernel
theorem pg_d225 : ∀ q ∈ pg_L225, decode prog_14_method_15_code q.1 = .ok (q.2.1, q.2.2.1 - q.1) := by decide +kernel
theorem pg_d226 : ∀ q ∈ pg_L226, decode prog_14_method_9_code q.1 = .ok (q.2.1, q.2.2.1 - q.1) := by decide +kernel
theorem pg_d227 : ∀ q ∈ pg_L227, decode prog_14_method_14_code q.1 = .ok (q.2.1, q.2.2.1 - q.1) := by decide +kernel
theorem pg_d228 : ∀ q ∈ pg_L228, decode prog_14_method_26_code q.1 = .ok (q.2.1, q.2.2.1 - q.1) := by decide +kernel
theorem pg_d229_0 : ∀ q ∈ (pg_L229.drop 0).take 48, decode prog_14_method_30_code q.1 = .ok (q.2.1, q.2.2.1 - q.1) := by decide +kernel
theorem pg_d229_1 : ∀ q ∈ (pg_L229.drop 48).take 48, decode prog_14_method_30_code q.1 = .ok (q.2.1, q.2.2.1 - q.1) := by decide +kernel
theorem pg_d229_2 : ∀ q ∈ (pg_L229.drop 96).take 48, decode prog_14_method_30_code q.1 = .ok (q.2.1, q.2.2.1 - q.1) := by decide +kernel
theorem pg_d229 : ∀ q ∈ pg_L229, decode prog_14_method_30_code q.1 = .ok (q.2.1, q.2.2.1 - q.1) := pg_cut 48 3 pg_L229 (by decide +kernel) (by
  intro c hc
  rcases (show c = 0 ∨ c = 1 ∨ c = 2 by omega) with rfl | rfl | rfl
  · exact pg_d229_0
  · exact pg_d229_1
  · exact pg_d229_2)
theorem pg_d230 : ∀ q ∈ pg_L230, decode prog_14_method_17_code q.1 = .ok (q.2.1, q.2.2.1 - q.1) := by decide +kernel
theorem pg_d231 : ∀ q ∈ pg_L231, decode prog_14_method_12_code q.1 = .ok (q.2.1, q.2.2.1 - q.1) := by decide +kernel
theorem pg_d232 : ∀ q ∈ pg_L232, decode prog_14_method_18_code q.1 = .ok (q.2.1, q.2.2.1 - q.1) := by decide +kernel
theorem pg_d233_0 : ∀ q ∈ (pg_L233.drop 0).take 48, decode prog_14_method_31_code q.1 = .ok (q.2.1, q.2.2.1 - q.1) := by decide +kernel
theorem pg_d233_1 : ∀ q ∈ (pg_L233.drop 48).take 48, decode prog_14_method_31_code q.1 = .ok (q.2.1, q.2.2.1 - q.1) := by decide +kernel
theorem pg_d233 : ∀ q ∈ pg_L233, decode prog_14_method_31_code q.1 = .ok (q.2.1, q.2.2.1 - q.1) := pg_cut 48 2 pg_L233 (by decide +kernel) (by
  intro c hc
  rcases (show c = 0 ∨ c = 1 by omega) with rfl | rfl
  · exact pg_d233_0
  · exact pg_d233_1)
theorem pg_d234 : ∀ q ∈ pg_L234, decode prog_14_method_21_code q.1 = .ok (q.2.1, q.2.2.1 - q.1) := by decide +kernel
theorem pg_d235 : ∀ q ∈ pg_L235, decode prog_14_method_19_code q.1 = .ok (q.2.1, q.2.2.1 - q.1) := by decide +kernel
theorem pg_d236 : ∀ q ∈ pg_L236, decode prog_14_method_20_code q.1 = .ok (q.2.1, q.2.2.1 - q.1) := by decide +kernel
theorem pg_d237_0 : ∀ q ∈ (pg_L237.drop 0).take 48, decode prog_14_method_32_code q.1 = .ok (q.2.1, q.2.2.1 - q.1) := by decide +kernel
theorem pg_d237_1 : ∀ q ∈ (pg_L237.drop 48).take 48, decode prog_14_method_32_code q.1 = .ok (q.2.1, q.2.2.1 - q.1) := by decide +kernel
theorem pg_d237 : ∀ q ∈ pg_L237, decode prog_14_method_32_code q.1 = .ok (q.2.1, q.2.2.1 - q.1) := pg_cut 48 2 pg_L237 (by decide +kernel) (by
  intro c hc
  rcases (show c = 0 ∨ c = 1 by omega) with rfl | rfl
  · exact pg_d237_0
  · exact pg_d237_1)
theorem pg_d238 : ∀ q ∈ pg_L238, decode prog_14_method_22_code q.1 = .ok (q.2.1, q.2.2.1 - q.1) := by decide +kernel
theorem pg_d239 : ∀ q ∈ pg_L239, decode prog_14_method_23_code q.1 = .ok (q.2.1, q.2.2.1 - q.1) := by decide +kernel
