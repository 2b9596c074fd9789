/-! what is known of an object that was read -/
theorem gl_1 {b : Nat → Nat} {i : Nat} : ∀ {c j : Nat} {q : Nat → Bool}, (gl b i j c q).1 = true → ∀ x, j ≤ x → x < j + c → gN b i x < oS b
  | 0, j, q, _, x, h1, h2 => absurd h2 (by omega)
  | c + 1, j, q, h, x, h1, h2 => by
    rw [gl_s] at h
    by_cases e : gN b i j < 1 ∨ oS b ≤ gN b i j ∨ q (gN b i j) = true
    · rw [if_pos e] at h; cases h
    · rw [if_neg e] at h
      by_cases ex : x = j
      · rw [ex]
        exact Nat.lt_of_not_le (fun h3 => e (Or.inr (Or.inl h3)))
      · exact gl_1 h x (by omega) (by omega)
theorem gs_1 {b : Nat → Nat} : ∀ (c i : Nat) (q : Nat → Bool), gs b i c q = true → ∀ x, i ≤ x → x < i + c → oT b x = 17 → gH b x = true ∧ ∀ y, 1 ≤ y → y < 1 + (oZ b x / 4 - 1) → gN b x y < oS b := by
  intro c
  induction c with
  | zero =>
    intro i q _ x h1 h2 _
    exact absurd h2 (by omega)
  | succ c ih =>
    intro i q h x h1 h2 hx
    rw [gs_s] at h
    by_cases ex : x = i
    · rw [ex] at hx ⊢
      rw [if_pos hx] at h
      by_cases e1 : gH b i = true
      · rw [if_pos e1] at h
        by_cases e2 : (gl b i 1 (oZ b i / 4 - 1) q).1 = true
        · exact ⟨e1, gl_1 e2⟩
        · rw [if_neg e2] at h; cases h
      · rw [if_neg e1] at h; cases h
    · by_cases e : oT b i = 17
      · rw [if_pos e] at h
        by_cases e1 : gH b i = true
        · rw [if_pos e1] at h
          by_cases e2 : (gl b i 1 (oZ b i / 4 - 1) q).1 = true
          · rw [if_pos e2] at h
            exact ih (i + 1) _ h x (by omega) (by omega) hx
          · rw [if_neg e2] at h; cases h
        · rw [if_neg e1] at h; cases h
      · rw [if_neg e] at h
        exact ih (i + 1) _ h x (by omega) (by omega) hx
theorem eSym_y {b : Nat → Nat} (h : eSym b = 0) : ∀ k, 1 ≤ k → k < oM b → yOK b k = true := by
  intro k h1 hk
  have c := w2_M0 hk
  have hs := eSym_w h c
  unfold eSym at h
  by_cases c1 : 1 < cnt (fun i => decide (oT b i = 2)) 1 (oS b - 1)
  · rw [if_pos c1] at h; exact absurd h (by decide)
  · rw [if_neg c1, if_neg c, if_pos hs] at h
    by_cases c2 : al (yOK b) 1 (oM b - 1) = true
    · exact al_iff.mp c2 k h1 (by omega)
    · rw [if_neg c2] at h; exact absurd h (by decide)
theorem eObj_0 {b : Nat → Nat} {n : Nat} (h : eObj b n = 0) : w2 b n ∧ (∀ k, 1 ≤ k → k < oM b → yOK b k = true) ∧ GP b n := by
  unfold eObj at h
  by_cases c1 : n < 64 ∨ oH b = false
  · rw [if_pos c1] at h; cases h
  · rw [if_neg c1] at h
    by_cases c2 : 1 ≤ oS b ∧ oS b ≤ 24 ∧ oR b + 64 * oS b ≤ n ∧ oT b 0 = 0
    · rw [if_neg (fun q => q c2)] at h
      by_cases c3 : fst0 (eSec b n) 0 (oS b) = 0
      · rw [if_neg (fun q => q c3)] at h
        by_cases c4 : eSym b = 0
        · rw [if_neg (fun q => q c4)] at h
          by_cases c5 : eSit b = 0
          · rw [if_neg (fun q => q c5)] at h
            have hsec := fun i (hi : i < oS b) => eSec_w (fst0_0 c3 i (Nat.zero_le _) (by omega))
            have hw1 : w1 b n := ⟨by omega, ⟨c2.1, c2.2.1⟩, c2.2.2.1, fun i hi => (hsec i hi).1, fun i hi => (hsec i hi).2.1⟩
            have hy := eSym_y c4
            refine ⟨⟨hw1, eSym_w c4⟩, hy, ?_⟩
            intro i h1 hi ht
            have hgs : gs b 1 (oS b - 1) (fun _ => false) = true := by
              unfold eGrp at h
              by_cases c6 : gs b 1 (oS b - 1) (fun _ => false) = true
              · exact c6
              · rw [if_neg c6] at h; cases h
            obtain ⟨g1, g2⟩ := gs_1 (oS b - 1) 1 _ hgs i h1 (by omega) ht
            have g3 := of_decide_eq_true g1
            have h24 := c2.2.1
            refine ⟨⟨g3.1, g3.2.1, g3.2.2.2.2.2.1, ?_⟩, (hsec i hi).1 (by rw [ht]; decide) (by rw [ht]; decide), fun j a1 a2 => ?_⟩
            · exact (yOK_n (hy _ g3.2.2.2.2.1 g3.2.2.2.2.2.1) g3.2.2.2.2.2.2.1).2.1
            · have := g2 j a1 (by omega)
              omega
          · rw [if_pos c5] at h; exact absurd h c5
        · rw [if_pos c4] at h; exact absurd h c4
      · rw [if_pos c3] at h; exact absurd h c3
    · rw [if_pos c2] at h; cases h
