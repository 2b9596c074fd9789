/-! the reference's readers -/
section GET
variable {F : Nat} {h : px_H} {m o n : Nat} {B : Nat → Int32}
/-- the object at o has its rows within the bytes -/
def rk (B : Nat → Int32) (o n : Nat) : Prop := (64 ≤ n ∧ o + n ≤ 65536) ∧ oR (cb B o n) + 64 * oS (cb B o n) ≤ n ∧ oS (cb B o n) ≤ 24
theorem mb_o (hb : mb h m B) : ∃ fs, xo h 12 m = some fs := ⟨hb.choose, hb.choose_spec.choose_spec.1⟩
theorem q_sections (hb : mb h m B) (hF : 8 < F) (ho : 64 ≤ n ∧ o + n ≤ 65536) : f_M_sections F m (nI o) h = some (nI (oS (cb B o n)), h) := by
  obtain ⟨fs, h1⟩ := mb_o hb
  unfold f_M_sections
  rw [nI_add, q_numo hb hF (by decide) ho.2 (by omega), h1]
  simp only [bs, xb_mk, lN_i]
  rfl
theorem q_row {i : Nat} (hb : mb h m B) (hF : 8 < F) (ho : 64 ≤ n ∧ o + n ≤ 65536) : f_M_row F m (nI o) (nI i) h = some (nI (o + (oR (cb B o n) + 64 * i)), h) := by
  obtain ⟨fs, h1⟩ := mb_o hb
  unfold f_M_row
  rw [nI_add, q_numo hb hF (by decide) ho.2 (by omega), h1]
  simp only [bs, xb_mk, lN_i]
  rw [pk_mul, nI_add, nI_add, Nat.add_assoc]
  rfl
theorem q_type {i : Nat} (hb : mb h m B) (hF : 8 < F) (ho : rk B o n) (hi : i < oS (cb B o n)) : f_M_type F m (nI o) (nI i) h = some (lN (oT (cb B o n) i), h) := by
  obtain ⟨fs, h1⟩ := mb_o hb
  have h2 := ho.2.1
  unfold f_M_type
  rw [h1, q_row hb hF ho.1]
  simp only [bs, xb_mk]
  rw [nI_add, h1, Nat.add_assoc, q_numo hb hF (by decide) ho.1.2 (by omega)]
  simp only [bs, xb_mk, oT]
theorem q_flagsOf {i : Nat} (hb : mb h m B) (hF : 8 < F) (ho : rk B o n) (hi : i < oS (cb B o n)) : f_M_flagsOf F m (nI o) (nI i) h = some (lN (oF (cb B o n) i), h) := by
  obtain ⟨fs, h1⟩ := mb_o hb
  have h2 := ho.2.1
  unfold f_M_flagsOf
  rw [h1, q_row hb hF ho.1]
  simp only [bs, xb_mk]
  rw [nI_add, h1, Nat.add_assoc, q_numo hb hF (by decide) ho.1.2 (by omega)]
  simp only [bs, xb_mk, oF]
theorem q_beginning {i : Nat} (hb : mb h m B) (hF : 8 < F) (ho : rk B o n) (hi : i < oS (cb B o n)) : f_M_beginning F m (nI o) (nI i) h = some (lN (oP (cb B o n) i), h) := by
  obtain ⟨fs, h1⟩ := mb_o hb
  have h2 := ho.2.1
  unfold f_M_beginning
  rw [h1, q_row hb hF ho.1]
  simp only [bs, xb_mk]
  rw [nI_add, h1, Nat.add_assoc, q_numo hb hF (by decide) ho.1.2 (by omega)]
  simp only [bs, xb_mk, oP]
theorem q_size {i : Nat} (hb : mb h m B) (hF : 8 < F) (ho : rk B o n) (hi : i < oS (cb B o n)) : f_M_size F m (nI o) (nI i) h = some (lN (oZ (cb B o n) i), h) := by
  obtain ⟨fs, h1⟩ := mb_o hb
  have h2 := ho.2.1
  unfold f_M_size
  rw [h1, q_row hb hF ho.1]
  simp only [bs, xb_mk]
  rw [nI_add, h1, Nat.add_assoc, q_numo hb hF (by decide) ho.1.2 (by omega)]
  simp only [bs, xb_mk, oZ]
theorem q_linkOf {i : Nat} (hb : mb h m B) (hF : 8 < F) (ho : rk B o n) (hi : i < oS (cb B o n)) : f_M_linkOf F m (nI o) (nI i) h = some (lN (oL (cb B o n) i), h) := by
  obtain ⟨fs, h1⟩ := mb_o hb
  have h2 := ho.2.1
  unfold f_M_linkOf
  rw [h1, q_row hb hF ho.1]
  simp only [bs, xb_mk]
  rw [nI_add, h1, Nat.add_assoc, q_numo hb hF (by decide) ho.1.2 (by omega)]
  simp only [bs, xb_mk, oL]
theorem q_info {i : Nat} (hb : mb h m B) (hF : 8 < F) (ho : rk B o n) (hi : i < oS (cb B o n)) : f_M_info F m (nI o) (nI i) h = some (lN (oI (cb B o n) i), h) := by
  obtain ⟨fs, h1⟩ := mb_o hb
  have h2 := ho.2.1
  unfold f_M_info
  rw [h1, q_row hb hF ho.1]
  simp only [bs, xb_mk]
  rw [nI_add, h1, Nat.add_assoc, q_numo hb hF (by decide) ho.1.2 (by omega)]
  simp only [bs, xb_mk, oI]
theorem q_align {i : Nat} (hb : mb h m B) (hF : 8 < F) (ho : rk B o n) (hi : i < oS (cb B o n)) : f_M_align F m (nI o) (nI i) h = some (lN (oA (cb B o n) i), h) := by
  obtain ⟨fs, h1⟩ := mb_o hb
  have h2 := ho.2.1
  unfold f_M_align
  rw [h1, q_row hb hF ho.1]
  simp only [bs, xb_mk]
  rw [nI_add, h1, Nat.add_assoc, q_numo hb hF (by decide) ho.1.2 (by omega)]
  simp only [bs, xb_mk, oA]
theorem q_isKept {i : Nat} (hb : mb h m B) (hF : 8 < F) (ho : rk B o n) (hi : i < oS (cb B o n)) : f_M_isKept F m (nI o) (nI i) h = some (bI (oK (cb B o n) i), h) := by
  obtain ⟨fs, h1⟩ := mb_o hb
  have e1 := oT_lt (cb_lt B o n) i
  have e2 := oF_lt (cb_lt B o n) i
  have k2 : (2 : Int64) = lN 2 := rfl
  have k8 : (8 : Int64) = lN 8 := rfl
  have a1 := lEQ (show oT (cb B o n) i < 2 ^ 64 by omega) (show 1 < 2 ^ 64 by decide)
  have a2 := lEQ (show oT (cb B o n) i < 2 ^ 64 by omega) (show 8 < 2 ^ 64 by decide)
  have a3 := lEQ (show oF (cb B o n) i &&& 2 < 2 ^ 64 from Nat.lt_of_le_of_lt Nat.and_le_right (by decide)) (show 0 < 2 ^ 64 by decide)
  have a4 := wb_and e2 (show 2 < 2 ^ 64 by decide)
  simp only [f_M_isKept, f_M_isKept_24, f_M_isKept_43, f_M_isKept_44, h1, q_type hb hF ho hi, q_flagsOf hb hF ho hi, bs, xb_mk, k2, k8, a1, a2, a3, a4, xz_0, xz_1]
  by_cases c1 : oT (cb B o n) i = 1 <;> by_cases c2 : oT (cb B o n) i = 8 <;> by_cases c3 : (oF (cb B o n) i &&& 2) = 0 <;> simp [oK, c1, c2, c3]
theorem q_isPower {v : Nat} (hv : v < 2 ^ 64) : f_M_isPower F (lN v) h = some (bI (isP v), h) := by
  simp only [f_M_isPower, f_M_isPower_28, f_M_isPower_29, xz_0, xz_1, lk]
  by_cases c1 : v < 2 ^ 63
  · simp only [pk_lLT c1 (show 1 < 2 ^ 63 by decide), pk_lLT (show 4096 < 2 ^ 63 by decide) c1]
    by_cases c2 : v < 1
    · rw [if_pos c2]
      simp [isP, show ¬ 1 ≤ v by omega]
    · rw [if_neg c2]
      by_cases c3 : 4096 < v
      · rw [if_pos c3]
        simp [isP, show ¬ v ≤ 4096 by omega]
      · rw [if_neg c3, lN_sub (by omega), wb_and hv (by omega)]
        have e : (v &&& (v - 1)) < 2 ^ 64 := Nat.lt_of_le_of_lt Nat.and_le_left hv
        simp only [lEQ e (show 0 < 2 ^ 64 by decide)]
        by_cases c4 : (v &&& (v - 1)) = 0
        · rw [if_pos c4]; simp [isP, c4, show 1 ≤ v by omega, show v ≤ 4096 by omega]
        · rw [if_neg c4]; simp [isP, c4]
  · have e : lN v < lN 1 := by
      rw [Int64.lt_iff_toInt_lt, lN_ti hv, if_neg c1]
      show (v : Int) - 2 ^ 64 < 1
      omega
    rw [if_pos e]
    simp [isP, show ¬ v ≤ 4096 by omega]
theorem q_lies {a c n : Nat} (ha : a < 2 ^ 64) (hc : c < 2 ^ 64) (hn : n < 2 ^ 62) : f_M_lies F (lN a) (lN c) (lN n) h = some (bI (decide (a + c ≤ n)), h) := by
  simp only [f_M_lies, f_M_lies_32, f_M_lies_33, xz_0, xz_1]
  by_cases c1 : c < 2 ^ 63
  · by_cases c2 : a < 2 ^ 63
    · rw [if_neg (by rw [pk_lLT c1 (by decide)]; omega), if_neg (by rw [pk_lLT c2 (by decide)]; omega)]
      by_cases c3 : n < c
      · rw [if_pos (by rw [pk_lLT (by omega) c1]; exact c3)]
        simp [show ¬ a + c ≤ n by omega]
      · rw [if_neg (by rw [pk_lLT (by omega) c1]; exact c3), lN_sub (by omega)]
        by_cases c4 : n - c < a
        · rw [if_pos (by rw [pk_lLT (by omega) c2]; exact c4)]
          simp [show ¬ a + c ≤ n by omega]
        · rw [if_neg (by rw [pk_lLT (by omega) c2]; exact c4)]
          simp [show a + c ≤ n by omega]
    · have e : lN a < lN 0 := by
        rw [Int64.lt_iff_toInt_lt, lN_ti ha, if_neg c2]
        show (a : Int) - 2 ^ 64 < 0
        omega
      rw [if_neg (by rw [pk_lLT c1 (by decide)]; omega), if_pos e]
      simp [show ¬ a + c ≤ n by omega]
  · have e : lN c < lN 0 := by
      rw [Int64.lt_iff_toInt_lt, lN_ti hc, if_neg c1]
      show (c : Int) - 2 ^ 64 < 0
      omega
    rw [if_pos e]
    simp [show ¬ a + c ≤ n by omega]
end GET
