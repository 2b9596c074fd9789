/-! the symbols of an object taken, in the reference -/
theorem idx_mem {w : List Nat} : ∀ {l : List (List Nat)} {k i : Nat}, l[i]? = some w → (idx w k l).isSome = true
  | [], k, i, h => by rw [List.getElem?_nil] at h; cases h
  | v :: l, k, i, h => by
    unfold idx
    by_cases c : v = w
    · rw [if_pos c]; rfl
    · rw [if_neg c]
      cases i with
      | zero => exact absurd (Option.some.inj h) c
      | succ i => exact idx_mem (i := i) h
section MTK
variable {dr : Nat → Bool} {t k : Nat} {b : Nat → Nat}
theorem comS_len {st : px_NL × List Nat} : (comS dr t b k st).2.1.length ≤ st.1.length + 1 ∧ (comS dr t b k st).2.2.length ≤ st.2.length + 1 := by
  have h1 := entL_len (w := yT b k) (xs := st.1)
  unfold comS
  split
  · exact ⟨by dsimp only; rw [setR_len]; exact h1, Nat.le_succ _⟩
  · split
    · exact ⟨h1, Nat.le_succ _⟩
    · refine ⟨by dsimp only; rw [setR_len]; exact h1, ?_⟩
      dsimp only
      split
      · rw [List.length_append]; exact Nat.le_refl _
      · exact Nat.le_succ _
theorem comS_f {st : px_NL × List Nat} (h : (comS dr t b k st).1 = false) : (comS dr t b k st).2.1 = entL (yT b k) st.1 := by
  unfold comS at h ⊢
  split at h
  · cases h
  · rename_i c1
    split at h
    · rename_i c2
      rw [if_neg c1, if_pos c2]
    · cases h
variable {F m o n : Nat} {h : px_H} {σ : px_S}
/-- a double is told: OUT is its name, the answer 1 -/
theorem q_double {xs : px_NL} (hm : m ≤ h.length) (hF : 4096 < F) (hB : ∀ k, isB (gA σ 6 k)) (hw : w2 (cb (gA σ 6) o n) n) (hn : o + n ≤ 65536) (hk : k < oM (cb (gA σ 6) o n)) (hg : yG (cb (gA σ 6) o n) k = true) (hr : RL σ (entL (yT (cb (gA σ 6) o n) k) xs)) (h3 : ∀ k, isB (gA σ 3 k)) (hl : (entL (yT (cb (gA σ 6) o n) k) xs).length ≤ 4096) : ∃ σ' q, f_M_nameOf F m (nI o) (nI k) (mh m h σ) = some (nI q, mh m h σ) ∧ q < 4096 ∧ gA σ 22 q = nI (yT (cb (gA σ 6) o n) k).length ∧ f_M_say F m (m + 13) (nI (20 * q)) (nI (yT (cb (gA σ 6) o n) k).length) (mh m h σ) = some ((), mh m h σ') ∧ ROu σ' (yT (cb (gA σ 6) o n) k).length (lb (yT (cb (gA σ 6) o n) k)) ∧ (∀ k, k ≠ 4 → gI σ' k = gI σ k) ∧ (∀ k, gJ σ' k = gJ σ k) ∧ (∀ k, k ≠ 3 → gA σ' k = gA σ k) ∧ (∀ k, gB σ' k = gB σ k) := by
  have hno := q_nameOf (F := F) hm hF hB hw hn hk hg hr
  obtain ⟨r, p1, p2⟩ := plc_at (w := yT (cb (gA σ 6) o n) k) (xs := xs)
  generalize yT (cb (gA σ 6) o n) k = w at *
  generalize entL w xs = ys at *
  have hmem : (ys.map Prod.fst)[plc w (xs.map Prod.fst)]? = some w := by rw [List.getElem?_map, p1]; rfl
  have hs := idx_mem (k := 0) hmem
  obtain ⟨q, hq⟩ := Option.isSome_iff_exists.mp hs
  have hq1 := idx_some hq
  have hq2 := idx_lt hq
  rw [Nat.sub_zero] at hq1
  rw [List.length_map] at hq2
  rw [hq] at hno
  obtain ⟨ok, e1, e2⟩ := hr.1.2.2 q w hq1
  have ok1 := ok.1
  obtain ⟨σ', a1, a2, a3⟩ := q_say (F := F) (p := 20 * q) (pa := m + 13) (ks := 21) (M := 81920) hm (by omega) (fun σ i hi => Ma21 hm hi) (by decide) ok e2 (by omega) h3
  exact ⟨σ', q, hno, by omega, e1, a1, a2, a3⟩
end MTK
