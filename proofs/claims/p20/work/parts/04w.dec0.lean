theorem pg_cut {P : (Nat × Instr × Nat × Nat × Nat) → Prop} (ck : Nat) : ∀ (n : Nat) (l : List (Nat × Instr × Nat × Nat × Nat)), l.length ≤ n * ck → (∀ c, c < n → ∀ q ∈ (l.drop (c * ck)).take ck, P q) → ∀ q ∈ l, P q
  | 0, l, hl, _, q, hq => by
    have : l = [] := List.length_eq_zero_iff.mp (by omega)
    rw [this] at hq
    cases hq
  | n + 1, l, hl, h, q, hq => by
    rw [← List.take_append_drop ck l] at hq
    rcases List.mem_append.mp hq with hq | hq
    · exact h 0 (by omega) q (by simpa using hq)
    · refine pg_cut ck n (l.drop ck) (by rw [List.length_drop, Nat.succ_mul] at *; omega) (fun c hc q hq => h (c + 1) (by omega) q ?_) q hq
      rw [List.drop_drop] at hq
      rw [Nat.succ_mul, Nat.add_comm]
      exact hq
theorem pg_d0_0 : ∀ q ∈ (pg_L0.drop 0).take 48, decode prog_1_method_1_code q.1 = .ok (q.2.1, q.2.2.1 - q.1) := by decide +kernel
theorem pg_d0_1 : ∀ q ∈ (pg_L0.drop 48).take 48, decode prog_1_method_1_code q.1 = .ok (q.2.1, q.2.2.1 - q.1) := by decide +kernel
theorem pg_d0_2 : ∀ q ∈ (pg_L0.drop 96).take 48, decode prog_1_method_1_code q.1 = .ok (q.2.1, q.2.2.1 - q.1) := by decide +kernel
theorem pg_d0 : ∀ q ∈ pg_L0, decode prog_1_method_1_code q.1 = .ok (q.2.1, q.2.2.1 - q.1) := pg_cut 48 3 pg_L0 (by decide +kernel) (by
  intro c hc
  rcases (show c = 0 ∨ c = 1 ∨ c = 2 by omega) with rfl | rfl | rfl
  · exact pg_d0_0
  · exact pg_d0_1
  · exact pg_d0_2)
theorem pg_d1 : ∀ q ∈ pg_L1, decode prog_1_method_5_code q.1 = .ok (q.2.1, q.2.2.1 - q.1) := by decide +kernel
theorem pg_d2_0 : ∀ q ∈ (pg_L2.drop 0).take 48, decode prog_1_method_27_code q.1 = .ok (q.2.1, q.2.2.1 - q.1) := by decide +kernel
theorem pg_d2_1 : ∀ q ∈ (pg_L2.drop 48).take 48, decode prog_1_method_27_code q.1 = .ok (q.2.1, q.2.2.1 - q.1) := by decide +kernel
theorem pg_d2 : ∀ q ∈ pg_L2, decode prog_1_method_27_code q.1 = .ok (q.2.1, q.2.2.1 - q.1) := pg_cut 48 2 pg_L2 (by decide +kernel) (by
  intro c hc
  rcases (show c = 0 ∨ c = 1 by omega) with rfl | rfl
  · exact pg_d2_0
  · exact pg_d2_1)
theorem pg_d3 : ∀ q ∈ pg_L3, decode prog_1_method_37_code q.1 = .ok (q.2.1, q.2.2.1 - q.1) := by decide +kernel
theorem pg_d4_0 : ∀ q ∈ (pg_L4.drop 0).take 48, decode prog_1_method_39_code q.1 = .ok (q.2.1, q.2.2.1 - q.1) := by decide +kernel
theorem pg_d4_1 : ∀ q ∈ (pg_L4.drop 48).take 48, decode prog_1_method_39_code q.1 = .ok (q.2.1, q.2.2.1 - q.1) := by decide +kernel
theorem pg_d4 : ∀ q ∈ pg_L4, decode prog_1_method_39_code q.1 = .ok (q.2.1, q.2.2.1 - q.1) := pg_cut 48 2 pg_L4 (by decide +kernel) (by
  intro c hc
  rcases (show c = 0 ∨ c = 1 by omega) with rfl | rfl
  · exact pg_d4_0
  · exact pg_d4_1)
theorem pg_d5 : ∀ q ∈ pg_L5, decode prog_1_method_6_code q.1 = .ok (q.2.1, q.2.2.1 - q.1) := by decide +kernel
theorem pg_d6 : ∀ q ∈ pg_L6, decode prog_1_method_28_code q.1 = .ok (q.2.1, q.2.2.1 - q.1) := by decide +kernel
theorem pg_d7 : ∀ q ∈ pg_L7, decode prog_1_method_9_code q.1 = .ok (q.2.1, q.2.2.1 - q.1) := by decide +kernel
theorem pg_d8 : ∀ q ∈ pg_L8, decode prog_1_method_10_code q.1 = .ok (q.2.1, q.2.2.1 - q.1) := by decide +kernel
theorem pg_d9 : ∀ q ∈ pg_L9, decode prog_1_method_12_code q.1 = .ok (q.2.1, q.2.2.1 - q.1) := by decide +kernel
theorem pg_d10 : ∀ q ∈ pg_L10, decode prog_1_method_36_code q.1 = .ok (q.2.1, q.2.2.1 - q.1) := by decide +kernel
theorem pg_d11 : ∀ q ∈ pg_L11, decode prog_1_method_21_code q.1 = .ok (q.2.1, q.2.2.1 - q.1) := by decide +kernel
theorem pg_d12 : ∀ q ∈ pg_L12, decode prog_1_method_22_code q.1 = .ok (q.2.1, q.2.2.1 - q.1) := by decide +kernel
theorem pg_d13 : ∀ q ∈ pg_L13, decode prog_1_method_23_code q.1 = .ok (q.2.1, q.2.2.1 - q.1) := by decide +kernel
theorem pg_d14 : ∀ q ∈ pg_L14, decode prog_1_method_2_code q.1 = .ok (q.2.1, q.2.2.1 - q.1) := by decide +kernel
theorem pg_d15 : ∀ q ∈ pg_L15, decode prog_1_method_3_code q.1 = .ok (q.2.1, q.2.2.1 - q.1) := by decide +kernel
theorem pg_d16 : ∀ q ∈ pg_L16, decode prog_1_method_33_code q.1 = .ok (q.2.1, q.2.2.1 - q.1) := by decide +kernel
theorem pg_d17_0 : ∀ q ∈ (pg_L17.drop 0).take 48, decode prog_1_method_34_code q.1 = .ok (q.2.1, q.2.2.1 - q.1) := by decide +kernel
theorem pg_d17_1 : ∀ q ∈ (pg_L17.drop 48).take 48, decode prog_1_method_34_code q.1 = .ok (q.2.1, q.2.2.1 - q.1) := by decide +kernel
theorem pg_d17 : ∀ q ∈ pg_L17, decode prog_1_method_34_code q.1 = .ok (q.2.1, q.2.2.1 - q.1) := pg_cut 48 2 pg_L17 (by decide +kernel) (by
  intro c hc
  rcases (show c = 0 ∨ c = 1 by omega) with rfl | rfl
  · exact pg_d17_0
  · exact pg_d17_1)
theorem pg_d18_0 : ∀ q ∈ (pg_L18.drop 0).take 48, decode prog_1_method_35_code q.1 = .ok (q.2.1, q.2.2.1 - q.1) := by decide +kernel
theorem pg_d18_1 : ∀ q ∈ (pg_L18.drop 48).take 48, decode prog_1_method_35_code q.1 = .ok (q.2.1, q.2.2.1 - q.1) := by decide +kernel
theorem pg_d18_2 : ∀ q ∈ (pg_L18.drop 96).take 48, decode prog_1_method_35_code q.1 = .ok (q.2.1, q.2.2.1 - q.1) := by decide +kernel
theorem pg_d18 : ∀ q ∈ pg_L18, decode prog_1_method_35_code q.1 = .ok (q.2.1, q.2.2.1 - q.1) := pg_cut 48 3 pg_L18 (by decide +kernel) (by
  intro c hc
  rcases (show c = 0 ∨ c = 1 ∨ c = 2 by omega) with rfl | rfl | rfl
  · exact pg_d18_0
  · exact pg_d18_1
  · exact pg_d18_2)
theorem pg_d19 : ∀ q ∈ pg_L19, decode prog_1_method_38_code q.1 = .ok (q.2.1, q.2.2.1 - q.1) := by decide +kernel
theorem pg_d20 : ∀ q ∈ pg_L20, decode prog_1_method_32_code q.1 = .ok (q.2.1, q.2.2.1 - q.1) := by decide +kernel
theorem pg_d21 : ∀ q ∈ pg_L21, decode prog_1_method_4_code q.1 = .ok (q.2.1, q.2.2.1 - q.1) := by decide +kernel
theorem pg_d22 : ∀ q ∈ pg_L22, decode prog_1_method_7_code q.1 = .ok (q.2.1, q.2.2.1 - q.1) := by decide +kernel
theorem pg_d23 : ∀ q ∈ pg_L23, decode prog_1_method_29_code q.1 = .ok (q.2.1, q.2.2.1 - q.1) := by decide +kernel
theorem pg_d24 : ∀ q ∈ pg_L24, decode prog_1_method_8_code q.1 = .ok (q.2.1, q.2.2.1 - q.1) := by decide +kernel
theorem pg_d25 : ∀ q ∈ pg_L25, decode prog_1_method_11_code q.1 = .ok (q.2.1, q.2.2.1 - q.1) := by decide +kernel
theorem pg_d26 : ∀ q ∈ pg_L26, decode prog_1_method_13_code q.1 = .ok (q.2.1, q.2.2.1 - q.1) := by decide +kernel
theorem pg_d27 : ∀ q ∈ pg_L27, decode prog_1_method_31_code q.1 = .ok (q.2.1, q.2.2.1 - q.1) := by decide +kernel
theorem pg_d28 : ∀ q ∈ pg_L28, decode prog_1_method_30_code q.1 = .ok (q.2.1, q.2.2.1 - q.1) := by decide +kernel
theorem pg_d29 : ∀ q ∈ pg_L29, decode prog_1_method_14_code q.1 = .ok (q.2.1, q.2.2.1 - q.1) := by decide +kernel
theorem pg_d30 : ∀ q ∈ pg_L30, decode prog_1_method_15_code q.1 = .ok (q.2.1, q.2.2.1 - q.1) := by decide +kernel
theorem pg_d31 : ∀ q ∈ pg_L31, decode prog_1_method_16_code q.1 = .ok (q.2.1, q.2.2.1 - q.1) := by decide +kernel
theorem pg_d32 : ∀ q ∈ pg_L32, decode prog_1_method_17_code q.1 = .ok (q.2.1, q.2.2.1 - q.1) := by decide +kernel
theorem pg_d33 : ∀ q ∈ pg_L33, decode prog_1_method_18_code q.1 = .ok (q.2.1, q.2.2.1 - q.1) := by decide +kernel
theorem pg_d34 : ∀ q ∈ pg_L34, decode prog_1_method_19_code q.1 = .ok (q.2.1, q.2.2.1 - q.1) := by decide +kernel
theorem pg_d35 : ∀ q ∈ pg_L35, decode prog_1_method_20_code q.1 = .ok (q.2.1, q.2.2.1 - q.1) := by decide +kernel
theorem pg_d36 : ∀ q ∈ pg_L36, decode prog_1_method_24_code q.1 = .ok (q.2.1, q.2.2.1 - q.1) := by decide +kernel
theorem pg_d37_0 : ∀ q ∈ (pg_L37.drop 0).take 48, decode prog_1_method_25_code q.1 = .ok (q.2.1, q.2.2.1 - q.1) := by decide +kernel
theorem pg_d37_1 : ∀ q ∈ (pg_L37.drop 48).take 48, decode prog_1_method_25_code q.1 = .ok (q.2.1, q.2.2.1 - q.1) := by decide +kernel
theorem pg_d37 : ∀ q ∈ pg_L37, decode prog_1_method_25_code q.1 = .ok (q.2.1, q.2.2.1 - q.1) := pg_cut 48 2 pg_L37 (by decide +kernel) (by
  intro c hc
  rcases (show c = 0 ∨ c = 1 by omega) with rfl | rfl
  · exact pg_d37_0
  · exact pg_d37_1)
theorem pg_d38_0 : ∀ q ∈ (pg_L38.drop 0).take 48, decode prog_1_method_26_code q.1 = .ok (q.2.1, q.2.2.1 - q.1) := by decide +kernel
theorem pg_d38_1 : ∀ q ∈ (pg_L38.drop 48).take 48, decode prog_1_method_26_code q.1 = .ok (q.2.1, q.2.2.1 - q.1) := by decide +kernel
theorem pg_d38 : ∀ q ∈ pg_L38, decode prog_1_method_26_code q.1 = .ok (q.2.1, q.2.2.1 - q.1) := pg_cut 48 2 pg_L38 (by decide +kernel) (by
  intro c hc
  rcases (show c = 0 ∨ c = 1 by omega) with rfl | rfl
  · exact pg_d38_0
  · exact pg_d38_1)
theorem pg_d39 : ∀ q ∈ pg_L39, decode prog_2_method_1_code q.1 = .ok (q.2.1, q.2.2.1 - q.1) := by decide +kernel
theorem pg_d40_0 : ∀ q ∈ (pg_L40.drop 0).take 48, decode prog_2_method_2_code q.1 = .ok (q.2.1, q.2.2.1 - q.1) := by decide +kernel
theorem pg_d40_1 : ∀ q ∈ (pg_L40.drop 48).take 48, decode prog_2_method_2_code q.1 = .ok (q.2.1, q.2.2.1 - q.1) := by decide +kernel
theorem pg_d40_2 : ∀ q ∈ (pg_L40.drop 96).take 48, decode prog_2_method_2_code q.1 = .ok (q.2.1, q.2.2.1 - q.1) := by decide +kernel
theorem pg_d40_3 : ∀ q ∈ (pg_L40.drop 144).take 48, decode prog_2_method_2_code q.1 = .ok (q.2.1, q.2.2.1 - q.1) := by decide +kernel
theorem pg_d40 : ∀ q ∈ pg_L40, decode prog_2_method_2_code q.1 = .ok (q.2.1, q.2.2.1 - q.1) := pg_cut 48 4 pg_L40 (by decide +kernel) (by
  intro c hc
  rcases (show c = 0 ∨ c = 1 ∨ c = 2 ∨ c = 3 by omega) with rfl | rfl | rfl | rfl
  · exact pg_d40_0
  · exact pg_d40_1
  · exact pg_d40_2
  · exact pg_d40_3)
theorem pg_d41_0 : ∀ q ∈ (pg_L41.drop 0).take 48, decode prog_2_method_3_code q.1 = .ok (q.2.1, q.2.2.1 - q.1) := by decide +kernel
theorem pg_d41_1 : ∀ q ∈ (pg_L41.drop 48).take 48, decode prog_2_method_3_code q.1 = .ok (q.2.1, q.2.2.1 - q.1) := by decide +kernel
theorem pg_d41 : ∀ q ∈ pg_L41, decode prog_2_method_3_code q.1 = .ok (q.2.1, q.2.2.1 - q.1) := pg_cut 48 2 pg_L41 (by decide +kernel) (by
  intro c hc
  rcases (show c = 0 ∨ c = 1 by omega) with rfl | rfl
  · exact pg_d41_0
  · exact pg_d41_1)
theorem pg_d42_0 : ∀ q ∈ (pg_L42.drop 0).take 48, decode prog_2_method_4_code q.1 = .ok (q.2.1, q.2.2.1 - q.1) := by decide +kernel
theorem pg_d42_1 : ∀ q ∈ (pg_L42.drop 48).take 48, decode prog_2_method_4_code q.1 = .ok (q.2.1, q.2.2.1 - q.1) := by decide +kernel
theorem pg_d42 : ∀ q ∈ pg_L42, decode prog_2_method_4_code q.1 = .ok (q.2.1, q.2.2.1 - q.1) := pg_cut 48 2 pg_L42 (by decide +kernel) (by
  intro c hc
  rcases (show c = 0 ∨ c = 1 by omega) with rfl | rfl
  · exact pg_d42_0
  · exact pg_d42_1)
theorem pg_d43 : ∀ q ∈ pg_L43, decode prog_2_method_5_code q.1 = .ok (q.2.1, q.2.2.1 - q.1) := by decide +kernel
theorem pg_d44_0 : ∀ q ∈ (pg_L44.drop 0).take 48, decode prog_2_method_6_code q.1 = .ok (q.2.1, q.2.2.1 - q.1) := by decide +kernel
theorem pg_d44_1 : ∀ q ∈ (pg_L44.drop 48).take 48, decode prog_2_method_6_code q.1 = .ok (q.2.1, q.2.2.1 - q.1) := by decide +kernel
theorem pg_d44 : ∀ q ∈ pg_L44, decode prog_2_method_6_code q.1 = .ok (q.2.1, q.2.2.1 - q.1) := pg_cut 48 2 pg_L44 (by decide +kernel) (by
  intro c hc
  rcases (show c = 0 ∨ c = 1 by omega) with rfl | rfl
  · exact pg_d44_0
  · exact pg_d44_1)
theorem pg_d45_0 : ∀ q ∈ (pg_L45.drop 0).take 48, decode prog_2_method_7_code q.1 = .ok (q.2.1, q.2.2.1 - q.1) := by decide +kernel
theorem pg_d45_1 : ∀ q ∈ (pg_L45.drop 48).take 48, decode prog_2_method_7_code q.1 = .ok (q.2.1, q.2.2.1 - q.1) := by decide +kernel
theorem pg_d45_2 : ∀ q ∈ (pg_L45.drop 96).take 48, decode prog_2_method_7_code q.1 = .ok (q.2.1, q.2.2.1 - q.1) := by decide +kernel
theorem pg_d45_3 : ∀ q ∈ (pg_L45.drop 144).take 48, decode prog_2_method_7_code q.1 = .ok (q.2.1, q.2.2.1 - q.1) := by decide +kernel
theorem pg_d45 : ∀ q ∈ pg_L45, decode prog_2_method_7_code q.1 = .ok (q.2.1, q.2.2.1 - q.1) := pg_cut 48 4 pg_L45 (by decide +kernel) (by
  intro c hc
  rcases (show c = 0 ∨ c = 1 ∨ c = 2 ∨ c = 3 by omega) with rfl | rfl | rfl | rfl
  · exact pg_d45_0
  · exact pg_d45_1
  · exact pg_d45_2
  · exact pg_d45_3)
theorem pg_d46_0 : ∀ q ∈ (pg_L46.drop 0).take 48, decode prog_2_method_10_code q.1 = .ok (q.2.1, q.2.2.1 - q.1) := by decide +kernel
theorem pg_d46_1 : ∀ q ∈ (pg_L46.drop 48).take 48, decode prog_2_method_10_code q.1 = .ok (q.2.1, q.2.2.1 - q.1) := by decide +kernel
theorem pg_d46_2 : ∀ q ∈ (pg_L46.drop 96).take 48, decode prog_2_method_10_code q.1 = .ok (q.2.1, q.2.2.1 - q.1) := by decide +kernel
theorem pg_d46 : ∀ q ∈ pg_L46, decode prog_2_method_10_code q.1 = .ok (q.2.1, q.2.2.1 - q.1) := pg_cut 48 3 pg_L46 (by decide +kernel) (by
  intro c hc
  rcases (show c = 0 ∨ c = 1 ∨ c = 2 by omega) with rfl | rfl | rfl
  · exact pg_d46_0
  · exact pg_d46_1
  · exact pg_d46_2)
theorem pg_d47 : ∀ q ∈ pg_L47, decode prog_2_method_8_code q.1 = .ok (q.2.1, q.2.2.1 - q.1) := by decide +kernel
theorem pg_d48_0 : ∀ q ∈ (pg_L48.drop 0).take 48, decode prog_2_method_9_code q.1 = .ok (q.2.1, q.2.2.1 - q.1) := by decide +kernel
theorem pg_d48_1 : ∀ q ∈ (pg_L48.drop 48).take 48, decode prog_2_method_9_code q.1 = .ok (q.2.1, q.2.2.1 - q.1) := by decide +kernel
theorem pg_d48 : ∀ q ∈ pg_L48, decode prog_2_method_9_code q.1 = .ok (q.2.1, q.2.2.1 - q.1) := pg_cut 48 2 pg_L48 (by decide +kernel) (by
  intro c hc
  rcases (show c = 0 ∨ c = 1 by omega) with rfl | rfl
  · exact pg_d48_0
  · exact pg_d48_1)
theorem pg_d49 : ∀ q ∈ pg_L49, decode prog_3_method_1_code q.1 = .ok (q.2.1, q.2.2.1 - q.1) := by decide +kernel
theorem pg_d50_0 : ∀ q ∈ (pg_L50.drop 0).take 48, decode prog_3_method_6_code q.1 = .ok (q.2.1, q.2.2.1 - q.1) := by decide +kernel
theorem pg_d50_1 : ∀ q ∈ (pg_L50.drop 48).take 48, decode prog_3_method_6_code q.1 = .ok (q.2.1, q.2.2.1 - q.1) := by decide +kernel
theorem pg_d50 : ∀ q ∈ pg_L50, decode prog_3_method_6_code q.1 = .ok (q.2.1, q.2.2.1 - q.1) := pg_cut 48 2 pg_L50 (by decide +kernel) (by
  intro c hc
  rcases (show c = 0 ∨ c = 1 by omega) with rfl | rfl
  · exact pg_d50_0
  · exact pg_d50_1)
theorem pg_d51_0 : ∀ q ∈ (pg_L51.drop 0).take 48, decode prog_3_method_7_code q.1 = .ok (q.2.1, q.2.2.1 - q.1) := by decide +kernel
theorem pg_d51_1 : ∀ q ∈ (pg_L51.drop 48).take 48, decode prog_3_method_7_code q.1 = .ok (q.2.1, q.2.2.1 - q.1) := by decide +kernel
theorem pg_d51 : ∀ q ∈ pg_L51, decode prog_3_method_7_code q.1 = .ok (q.2.1, q.2.2.1 - q.1) := pg_cut 48 2 pg_L51 (by decide +kernel) (by
  intro c hc
  rcases (show c = 0 ∨ c = 1 by omega) with rfl | rfl
  · exact pg_d51_0
  · exact pg_d51_1)
theorem pg_d52_0 : ∀ q ∈ (pg_L52.drop 0).take 48, decode prog_3_method_8_code q.1 = .ok (q.2.1, q.2.2.1 - q.1) := by decide +kernel
theorem pg_d52_1 : ∀ q ∈ (pg_L52.drop 48).take 48, decode prog_3_method_8_code q.1 = .ok (q.2.1, q.2.2.1 - q.1) := by decide +kernel
theorem pg_d52 : ∀ q ∈ pg_L52, decode prog_3_method_8_code q.1 = .ok (q.2.1, q.2.2.1 - q.1) := pg_cut 48 2 pg_L52 (by decide +kernel) (by
  intro c hc
  rcases (show c = 0 ∨ c = 1 by omega) with rfl | rfl
  · exact pg_d52_0
  · exact pg_d52_1)
theorem pg_d53_0 : ∀ q ∈ (pg_L53.drop 0).take 48, decode prog_3_method_9_code q.1 = .ok (q.2.1, q.2.2.1 - q.1) := by decide +kernel
theorem pg_d53_1 : ∀ q ∈ (pg_L53.drop 48).take 48, decode prog_3_method_9_code q.1 = .ok (q.2.1, q.2.2.1 - q.1) := by decide +kernel
theorem pg_d53_2 : ∀ q ∈ (pg_L53.drop 96).take 48, decode prog_3_method_9_code q.1 = .ok (q.2.1, q.2.2.1 - q.1) := by decide +kernel
theorem pg_d53 : ∀ q ∈ pg_L53, decode prog_3_method_9_code q.1 = .ok (q.2.1, q.2.2.1 - q.1) := pg_cut 48 3 pg_L53 (by decide +kernel) (by
  intro c hc
  rcases (show c = 0 ∨ c = 1 ∨ c = 2 by omega) with rfl | rfl | rfl
  · exact pg_d53_0
  · exact pg_d53_1
  · exact pg_d53_2)
theorem pg_d54 : ∀ q ∈ pg_L54, decode prog_3_method_11_code q.1 = .ok (q.2.1, q.2.2.1 - q.1) := by decide +kernel
theorem pg_d55 : ∀ q ∈ pg_L55, decode prog_3_method_10_code q.1 = .ok (q.2.1, q.2.2.1 - q.1) := by decide +kernel
theorem pg_d56_0 : ∀ q ∈ (pg_L56.drop 0).take 48, decode prog_3_method_13_code q.1 = .ok (q.2.1, q.2.2.1 - q.1) := by decide +kernel
theorem pg_d56_1 : ∀ q ∈ (pg_L56.drop 48).take 48, decode prog_3_method_13_code q.1 = .ok (q.2.1, q.2.2.1 - q.1) := by decide +kernel
theorem pg_d56_2 : ∀ q ∈ (pg_L56.drop 96).take 48, decode prog_3_method_13_code q.1 = .ok (q.2.1, q.2.2.1 - q.1) := by decide +kernel
theorem pg_d56 : ∀ q ∈ pg_L56, decode prog_3_method_13_code q.1 = .ok (q.2.1, q.2.2.1 - q.1) := pg_cut 48 3 pg_L56 (by decide +kernel) (by
  intro c hc
  rcases (show c = 0 ∨ c = 1 ∨ c = 2 by omega) with rfl | rfl | rfl
  · exact pg_d56_0
  · exact pg_d56_1
  · exact pg_d56_2)
theorem pg_d57 : ∀ q ∈ pg_L57, decode prog_3_method_2_code q.1 = .ok (q.2.1, q.2.2.1 - q.1) := by decide +kernel
theorem pg_d58 : ∀ q ∈ pg_L58, decode prog_3_method_3_code q.1 = .ok (q.2.1, q.2.2.1 - q.1) := by decide +kernel
theorem pg_d59 : ∀ q ∈ pg_L59, decode prog_3_method_14_code q.1 = .ok (q.2.1, q.2.2.1 - q.1) := by decide +kernel
theorem pg_d60_0 : ∀ q ∈ (pg_L60.drop 0).take 48, decode prog_3_method_15_code q.1 = .ok (q.2.1, q.2.2.1 - q.1) := by decide +kernel
theorem pg_d60_1 : ∀ q ∈ (pg_L60.drop 48).take 48, decode prog_3_method_15_code q.1 = .ok (q.2.1, q.2.2.1 - q.1) := by decide +kernel
theorem pg_d60_2 : ∀ q ∈ (pg_L60.drop 96).take 48, decode prog_3_method_15_code q.1 = .ok (q.2.1, q.2.2.1 - q.1) := by decide +kernel
theorem pg_d60 : ∀ q ∈ pg_L60, decode prog_3_method_15_code q.1 = .ok (q.2.1, q.2.2.1 - q.1) := pg_cut 48 3 pg_L60 (by decide +kernel) (by
  intro c hc
  rcases (show c = 0 ∨ c = 1 ∨ c = 2 by omega) with rfl | rfl | rfl
  · exact pg_d60_0
  · exact pg_d60_1
  · exact pg_d60_2)
theorem pg_d61 : ∀ q ∈ pg_L61, decode prog_3_method_4_code q.1 = .ok (q.2.1, q.2.2.1 - q.1) := by decide +kernel
theorem pg_d62_0 : ∀ q ∈ (pg_L62.drop 0).take 48, decode prog_3_method_16_code q.1 = .ok (q.2.1, q.2.2.1 - q.1) := by decide +kernel
theorem pg_d62_1 : ∀ q ∈ (pg_L62.drop 48).take 48, decode prog_3_method_16_code q.1 = .ok (q.2.1, q.2.2.1 - q.1) := by decide +kernel
theorem pg_d62_2 : ∀ q ∈ (pg_L62.drop 96).take 48, decode prog_3_method_16_code q.1 = .ok (q.2.1, q.2.2.1 - q.1) := by decide +kernel
theorem pg_d62 : ∀ q ∈ pg_L62, decode prog_3_method_16_code q.1 = .ok (q.2.1, q.2.2.1 - q.1) := pg_cut 48 3 pg_L62 (by decide +kernel) (by
  intro c hc
  rcases (show c = 0 ∨ c = 1 ∨ c = 2 by omega) with rfl | rfl | rfl
  · exact pg_d62_0
  · exact pg_d62_1
  · exact pg_d62_2)
theorem pg_d63 : ∀ q ∈ pg_L63, decode prog_3_method_19_code q.1 = .ok (q.2.1, q.2.2.1 - q.1) := by decide +kernel
theorem pg_d64_0 : ∀ q ∈ (pg_L64.drop 0).take 48, decode prog_3_method_17_code q.1 = .ok (q.2.1, q.2.2.1 - q.1) := by decide +kernel
theorem pg_d64_1 : ∀ q ∈ (pg_L64.drop 48).take 48, decode prog_3_method_17_code q.1 = .ok (q.2.1, q.2.2.1 - q.1) := by decide +kernel
theorem pg_d64_2 : ∀ q ∈ (pg_L64.drop 96).take 48, decode prog_3_method_17_code q.1 = .ok (q.2.1, q.2.2.1 - q.1) := by decide +kernel
theorem pg_d64 : ∀ q ∈ pg_L64, decode prog_3_method_17_code q.1 = .ok (q.2.1, q.2.2.1 - q.1) := pg_cut 48 3 pg_L64 (by decide +kernel) (by
  intro c hc
  rcases (show c = 0 ∨ c = 1 ∨ c = 2 by omega) with rfl | rfl | rfl
  · exact pg_d64_0
  · exact pg_d64_1
  · exact pg_d64_2)
theorem pg_d65 : ∀ q ∈ pg_L65, decode prog_3_method_18_code q.1 = .ok (q.2.1, q.2.2.1 - q.1) := by decide +kernel
theorem pg_d66 : ∀ q ∈ pg_L66, decode prog_3_method_20_code q.1 = .ok (q.2.1, q.2.2.1 - q.1) := by decide +kernel
theorem pg_d67 : ∀ q ∈ pg_L67, decode prog_3_method_21_code q.1 = .ok (q.2.1, q.2.2.1 - q.1) := by decide +kernel
theorem pg_d68 : ∀ q ∈ pg_L68, decode prog_3_method_5_code q.1 = .ok (q.2.1, q.2.2.1 - q.1) := by decide +kernel
theorem pg_d69 : ∀ q ∈ pg_L69, decode prog_3_method_12_code q.1 = .ok (q.2.1, q.2.2.1 - q.1) := by decide +kernel
theorem pg_d70_0 : ∀ q ∈ (pg_L70.drop 0).take 48, decode prog_3_method_22_code q.1 = .ok (q.2.1, q.2.2.1 - q.1) := by decide +kernel
theorem pg_d70_1 : ∀ q ∈ (pg_L70.drop 48).take 48, decode prog_3_method_22_code q.1 = .ok (q.2.1, q.2.2.1 - q.1) := by decide +kernel
theorem pg_d70 : ∀ q ∈ pg_L70, decode prog_3_method_22_code q.1 = .ok (q.2.1, q.2.2.1 - q.1) := pg_cut 48 2 pg_L70 (by decide +kernel) (by
  intro c hc
  rcases (show c = 0 ∨ c = 1 by omega) with rfl | rfl
  · exact pg_d70_0
  · exact pg_d70_1)
theorem pg_d71_0 : ∀ q ∈ (pg_L71.drop 0).take 48, decode prog_4_method_1_code q.1 = .ok (q.2.1, q.2.2.1 - q.1) := by decide +kernel
theorem pg_d71_1 : ∀ q ∈ (pg_L71.drop 48).take 48, decode prog_4_method_1_code q.1 = .ok (q.2.1, q.2.2.1 - q.1) := by decide +kernel
theorem pg_d71 : ∀ q ∈ pg_L71, decode prog_4_method_1_code q.1 = .ok (q.2.1, q.2.2.1 - q.1) := pg_cut 48 2 pg_L71 (by decide +kernel) (by
  intro c hc
  rcases (show c = 0 ∨ c = 1 by omega) with rfl | rfl
  · exact pg_d71_0
  · exact pg_d71_1)
theorem pg_d72_0 : ∀ q ∈ (pg_L72.drop 0).take 48, decode prog_4_method_9_code q.1 = .ok (q.2.1, q.2.2.1 - q.1) := by decide +kernel
theorem pg_d72_1 : ∀ q ∈ (pg_L72.drop 48).take 48, decode prog_4_method_9_code q.1 = .ok (q.2.1, q.2.2.1 - q.1) := by decide +kernel
theorem pg_d72 : ∀ q ∈ pg_L72, decode prog_4_method_9_code q.1 = .ok (q.2.1, q.2.2.1 - q.1) := pg_cut 48 2 pg_L72 (by decide +kernel) (by
  intro c hc
  rcases (show c = 0 ∨ c = 1 by omega) with rfl | rfl
  · exact pg_d72_0
  · exact pg_d72_1)
theorem pg_d73_0 : ∀ q ∈ (pg_L73.drop 0).take 48, decode prog_4_method_10_code q.1 = .ok (q.2.1, q.2.2.1 - q.1) := by decide +kernel
theorem pg_d73_1 : ∀ q ∈ (pg_L73.drop 48).take 48, decode prog_4_method_10_code q.1 = .ok (q.2.1, q.2.2.1 - q.1) := by decide +kernel
theorem pg_d73 : ∀ q ∈ pg_L73, decode prog_4_method_10_code q.1 = .ok (q.2.1, q.2.2.1 - q.1) := pg_cut 48 2 pg_L73 (by decide +kernel) (by
  intro c hc
  rcases (show c = 0 ∨ c = 1 by omega) with rfl | rfl
  · exact pg_d73_0
  · exact pg_d73_1)
theorem pg_d74 : ∀ q ∈ pg_L74, decode prog_4_method_21_code q.1 = .ok (q.2.1, q.2.2.1 - q.1) := by decide +kernel
theorem pg_d75 : ∀ q ∈ pg_L75, decode prog_4_method_14_code q.1 = .ok (q.2.1, q.2.2.1 - q.1) := by decide +kernel
theorem pg_d76_0 : ∀ q ∈ (pg_L76.drop 0).take 48, decode prog_4_method_15_code q.1 = .ok (q.2.1, q.2.2.1 - q.1) := by decide +kernel
theorem pg_d76_1 : ∀ q ∈ (pg_L76.drop 48).take 48, decode prog_4_method_15_code q.1 = .ok (q.2.1, q.2.2.1 - q.1) := by decide +kernel
theorem pg_d76_2 : ∀ q ∈ (pg_L76.drop 96).take 48, decode prog_4_method_15_code q.1 = .ok (q.2.1, q.2.2.1 - q.1) := by decide +kernel
theorem pg_d76 : ∀ q ∈ pg_L76, decode prog_4_method_15_code q.1 = .ok (q.2.1, q.2.2.1 - q.1) := pg_cut 48 3 pg_L76 (by decide +kernel) (by
  intro c hc
  rcases (show c = 0 ∨ c = 1 ∨ c = 2 by omega) with rfl | rfl | rfl
  · exact pg_d76_0
  · exact pg_d76_1
  · exact pg_d76_2)
theorem pg_d77 : ∀ q ∈ pg_L77, decode prog_4_method_3_code q.1 = .ok (q.2.1, q.2.2.1 - q.1) := by decide +kernel
theorem pg_d78 : ∀ q ∈ pg_L78, decode prog_4_method_16_code q.1 = .ok (q.2.1, q.2.2.1 - q.1) := by decide +kernel
theorem pg_d79_0 : ∀ q ∈ (pg_L79.drop 0).take 48, decode prog_4_method_17_code q.1 = .ok (q.2.1, q.2.2.1 - q.1) := by decide +kernel
theorem pg_d79_1 : ∀ q ∈ (pg_L79.drop 48).take 48, decode prog_4_method_17_code q.1 = .ok (q.2.1, q.2.2.1 - q.1) := by decide +kernel
theorem pg_d79 : ∀ q ∈ pg_L79, decode prog_4_method_17_code q.1 = .ok (q.2.1, q.2.2.1 - q.1) := pg_cut 48 2 pg_L79 (by decide +kernel) (by
  intro c hc
  rcases (show c = 0 ∨ c = 1 by omega) with rfl | rfl
  · exact pg_d79_0
  · exact pg_d79_1)
