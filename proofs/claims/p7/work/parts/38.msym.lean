/-! the reference's readers of symbols -/
section SYM
variable {F : Nat} {h : px_H} {m o n : Nat} {B : Nat → Int32}
theorem q_group {i : Nat} (hb : mb h m B) (hF : 8 < F) (ho : rk B o n) (hi : i < oS (cb B o n)) : f_M_group F m (nI o) (nI i) h = some (nI (oG (cb B o n) i), h) := by
  obtain ⟨fs, h1⟩ := mb_o hb
  have e1 := oT_lt (cb_lt B o n) i
  have e2 := oF_lt (cb_lt B o n) i
  have a2 := lEQ (show oT (cb B o n) i < 2 ^ 64 by omega) (show 8 < 2 ^ 64 by decide)
  have b1 := lEQ (show oF (cb B o n) i &&& 1024 < 2 ^ 64 from Nat.lt_of_le_of_lt Nat.and_le_right (by decide)) (show 0 < 2 ^ 64 by decide)
  have b2 := lEQ (show oF (cb B o n) i &&& 4 < 2 ^ 64 from Nat.lt_of_le_of_lt Nat.and_le_right (by decide)) (show 0 < 2 ^ 64 by decide)
  have b3 := lEQ (show oF (cb B o n) i &&& 1 < 2 ^ 64 from Nat.lt_of_le_of_lt Nat.and_le_right (by decide)) (show 0 < 2 ^ 64 by decide)
  have c1 := wb_and e2 (show 1024 < 2 ^ 64 by decide)
  have c2 := wb_and e2 (show 4 < 2 ^ 64 by decide)
  have c3 := wb_and e2 (show 1 < 2 ^ 64 by decide)
  have k0 : (0 : Int32) = nI 0 := rfl
  have k1 : (nI 1 = nI 0) ↔ False := by decide
  simp only [f_M_group, f_M_group_18, f_M_group_43, f_M_group_89, h1, q_type hb hF ho hi, q_flagsOf hb hF ho hi, bs, xb_mk, lk, a2, b1, b2, b3, c1, c2, c3, k0, k1, if_true, if_false]
  by_cases d1 : oT (cb B o n) i = 8 <;> by_cases d2 : (oF (cb B o n) i &&& 1024) = 0 <;> by_cases d3 : (oF (cb B o n) i &&& 4) = 0 <;> by_cases d4 : (oF (cb B o n) i &&& 1) = 0 <;> simp only [oG, d1, d2, d3, d4, k1, if_true, if_false, not_true_eq_false, not_false_eq_true]
theorem q_symbols_2 (hb : mb h m B) (hF : 8 < F) (ho : rk B o n) : ∀ (c i f : Nat), i + c = oS (cb B o n) → c < f → f_M_symbols_2 F f m (nI o) (nI i) h = some (nI (fnd (fun i => decide (oT (cb B o n) i = 2)) 0 i c), h) := by
  obtain ⟨fs, h1⟩ := mb_o hb
  have hs := ho.2.2
  intro c
  induction c with
  | zero =>
    intro i f hi hf
    cases f with
    | zero => omega
    | succ f =>
      unfold f_M_symbols_2
      rw [h1, q_sections hb hF ho.1]
      simp only [bs, xb_mk]
      rw [if_pos (nI_le (by omega) (by omega))]
      rfl
  | succ c ih =>
    intro i f hi hf
    cases f with
    | zero => omega
    | succ f =>
      have e1 := oT_lt (cb_lt B o n) i
      have a1 := lEQ (show oT (cb B o n) i < 2 ^ 64 by omega) (show 2 < 2 ^ 64 by decide)
      unfold f_M_symbols_2
      rw [h1, q_sections hb hF ho.1]
      simp only [bs, xb_mk]
      rw [if_neg (nI_ge (by omega) (by omega)), h1, q_type hb hF ho (by omega)]
      simp only [bs, xb_mk, lk, a1]
      unfold fnd
      by_cases c1 : oT (cb B o n) i = 2
      · rw [if_pos c1, if_pos (decide_eq_true c1)]
        rfl
      · rw [if_neg c1, if_neg (by simp [c1]), nI_add]
        exact ih (i + 1) f (by omega) (by omega)
theorem q_symbols (hb : mb h m B) (hF : 24 < F) (ho : rk B o n) (hs : 1 ≤ oS (cb B o n)) : f_M_symbols F m (nI o) h = some (nI (oY (cb B o n)), h) := by
  unfold f_M_symbols oY
  have := ho.2.2
  exact q_symbols_2 hb (by omega) ho _ _ _ (by omega) (by omega)
theorem oY_lt {b : Nat → Nat} (hs : 1 ≤ oS b) : oY b < oS b := by
  unfold oY
  rcases @fnd_le (fun i => decide (oT b i = 2)) 0 1 (oS b - 1) with h1 | h1 <;> omega
theorem oY_T {b : Nat → Nat} (hs : oY b ≠ 0) : oT b (oY b) = 2 := by
  unfold oY at hs ⊢
  rcases @fnd_le (fun i => decide (oT b i = 2)) 0 1 (oS b - 1) with h1 | h1
  · exact absurd h1 hs
  · exact of_decide_eq_true h1.2.2
theorem q_symbolMany (hb : mb h m B) (hF : 24 < F) (ho : rk B o n) (hs : 1 ≤ oS (cb B o n)) (hz : oY (cb B o n) ≠ 0 → oZ (cb B o n) (oY (cb B o n)) < 2 ^ 31) : f_M_symbolMany F m (nI o) h = some (nI (oM (cb B o n)), h) := by
  obtain ⟨fs, h1⟩ := mb_o hb
  have hy := oY_lt hs
  have := ho.2.2
  have k0 : (0 : Int32) = nI 0 := rfl
  unfold f_M_symbolMany f_M_symbolMany_24 oM
  rw [h1, q_symbols hb hF ho hs]
  simp only [bs, xb_mk, k0, nI_eq (show oY (cb B o n) < 2 ^ 31 by omega) (show 0 < 2 ^ 31 by decide)]
  by_cases c : oY (cb B o n) = 0
  · rw [if_pos c, if_pos c]
  · rw [if_neg c, if_neg c, h1, q_size hb (by omega) ho hy]
    simp only [bs, xb_mk, lN_i]
    rw [pk_div (hz c) (by decide) (by decide)]
theorem q_symbol {k : Nat} (hb : mb h m B) (hF : 24 < F) (ho : rk B o n) (hs : 1 ≤ oS (cb B o n)) : f_M_symbol F m (nI o) (nI k) h = some (nI (o + yP (cb B o n) k), h) := by
  obtain ⟨fs, h1⟩ := mb_o hb
  unfold f_M_symbol
  rw [h1, q_symbols hb hF ho hs]
  simp only [bs, xb_mk]
  rw [h1, q_beginning hb (by omega) ho (oY_lt hs)]
  simp only [bs, xb_mk, lN_i]
  rw [pk_mul, nI_add, nI_add, Nat.add_assoc]
  rfl
theorem q_where {k : Nat} (hb : mb h m B) (hF : 24 < F) (ho : rk B o n) (hs : 1 ≤ oS (cb B o n)) (hk : yP (cb B o n) k + 24 ≤ n) : f_M_where F m (nI o) (nI k) h = some (nI (yW (cb B o n) k), h) := by
  obtain ⟨fs, h1⟩ := mb_o hb
  unfold f_M_where
  rw [h1, q_symbol hb hF ho hs]
  simp only [bs, xb_mk]
  rw [h1, nI_add, Nat.add_assoc, q_numo hb (by omega) (by decide) ho.1.2 (by omega)]
  simp only [bs, xb_mk, lN_i, yW]
theorem q_value {k : Nat} (hb : mb h m B) (hF : 24 < F) (ho : rk B o n) (hs : 1 ≤ oS (cb B o n)) (hk : yP (cb B o n) k + 24 ≤ n) : f_M_value F m (nI o) (nI k) h = some (lN (yV (cb B o n) k), h) := by
  obtain ⟨fs, h1⟩ := mb_o hb
  unfold f_M_value
  rw [h1, q_symbol hb hF ho hs]
  simp only [bs, xb_mk]
  rw [h1, nI_add, Nat.add_assoc, q_numo hb (by omega) (by decide) ho.1.2 (by omega)]
  simp only [bs, xb_mk, yV]
theorem ar16 {y n : Nat} (h : y + 24 ≤ n) : y + 16 + 8 ≤ n := by omega
theorem q_symbolSize {k : Nat} (hb : mb h m B) (hF : 24 < F) (ho : rk B o n) (hs : 1 ≤ oS (cb B o n)) (hk : yP (cb B o n) k + 24 ≤ n) : f_M_symbolSize F m (nI o) (nI k) h = some (lN (yZ (cb B o n) k), h) := by
  obtain ⟨fs, h1⟩ := mb_o hb
  unfold f_M_symbolSize
  rw [h1, q_symbol hb hF ho hs]
  simp only [bs, xb_mk]
  rw [h1, nI_add, Nat.add_assoc, q_numo hb (by omega) (by decide) ho.1.2 (ar16 hk)]
  simp only [bs, xb_mk, yZ]
theorem q_bind {k : Nat} (hb : mb h m B) (hF : 24 < F) (ho : rk B o n) (hs : 1 ≤ oS (cb B o n)) (hk : yP (cb B o n) k + 24 ≤ n) : f_M_bind F m (nI o) (nI k) h = some (nI (yB (cb B o n) k), h) := by
  obtain ⟨fs, q, h1, h2, h3, h4⟩ := id hb
  have hon := ho.1.2
  unfold f_M_bind yB
  rw [cb_at (show yP (cb B o n) k + 4 < n by omega), h2, h1, bs, bs, q_symbol hb hF ho hs, xb_mk, nI_add, xaI_at h3 (by decide) (by omega), bs, isB_hi (h4 _), Nat.add_assoc]
end SYM
