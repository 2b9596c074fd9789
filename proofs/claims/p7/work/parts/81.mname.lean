/-! an object's names, in the reference -/
/-- the name of a symbol -/
def yT (b : Nat → Nat) (k : Nat) : List Nat := tk b (oP b (oX b) + yN b k) (yL b k)
theorem run_nz {b : Nat → Nat} : ∀ {c p i : Nat}, i < run b p c → b (p + i) ≠ 0
  | 0, p, i, h => absurd h (Nat.not_lt_zero _)
  | c + 1, p, i, h => by
    unfold run at h
    by_cases e : b p = 0
    · rw [if_pos e] at h; exact absurd h (Nat.not_lt_zero _)
    · rw [if_neg e] at h
      cases i with
      | zero => exact e
      | succ i =>
        rw [show p + (i + 1) = (p + 1) + i by omega]
        exact run_nz (c := c) (by omega)
theorem run_z {b : Nat → Nat} : ∀ {c p : Nat}, run b p c < c → b (p + run b p c) = 0
  | 0, p, h => absurd h (Nat.not_lt_zero _)
  | c + 1, p, h => by
    unfold run at h ⊢
    by_cases e : b p = 0
    · rw [if_pos e]; exact e
    · rw [if_neg e] at h ⊢
      rw [show p + (run b (p + 1) c + 1) = (p + 1) + run b (p + 1) c by omega]
      exact run_z (by omega)
theorem yG_n {b : Nat → Nat} {k : Nat} (h : yG b k = true) : 1 ≤ yL b k ∧ yL b k ≤ 20 ∧ yN b k + yL b k < oZ b (oX b) := by
  unfold yG at h
  have := of_decide_eq_true h
  exact ⟨this.2.1, this.2.2.1, this.2.2.2⟩
theorem ar_nm {o P f l Z n : Nat} (hn : o + n ≤ 65536) (hp : P + Z ≤ n) (hl : f + l < Z) : P + f + l < n ∧ o + (P + f) + l < 65536 ∧ o + n ≤ 65536 := by omega
section MNA
variable {F m o n k : Nat} {h : px_H} {σ : px_S} {B : Nat → Int32}
theorem q_nameAt (hb : mb h m B) (hF : 24 < F) (hw : w2 (cb B o n) n) (hn : o + n ≤ 65536) (hk : k < oM (cb B o n)) : f_M_nameAt F m (nI o) (nI k) h = some (nI (o + (oP (cb B o n) (oX (cb B o n)) + yN (cb B o n) k)), h) := by
  obtain ⟨fs, h1⟩ := mb_o hb
  have ho := w1_rk hw.1 hn
  have hs := hw.1.2.1.1
  have c := w2_M0 hk
  have hX := (hw.2 c).2.2.1
  have hy := w2_y hw hk
  unfold f_M_nameAt
  rw [h1, bs, q_symbols hb hF ho hs, xb_mk, h1, bs, q_linkOf hb (by omega) ho (oY_lt hs), xb_mk, h1, bs, lN_i]
  rw [show oL (cb B o n) (oY (cb B o n)) = oX (cb B o n) from rfl, q_beginning hb (by omega) ho hX, xb_mk, h1, bs, q_symbol hb hF ho hs, xb_mk, h1, bs, q_numo (k := 4) hb (by omega) (by decide) hn (Nat.le_trans (Nat.add_le_add_left (show 4 ≤ 24 by decide) _) hy), xb_mk, lN_i, lN_i, nI_add, nI_add, Nat.add_assoc]
  rfl
theorem q_nameEnd (hm : m ≤ h.length) (hB : ∀ k, isB (gA σ 6 k)) (hF : 24 < F) (hw : w2 (cb (gA σ 6) o n) n) (hn : o + n ≤ 65536) (hk : k < oM (cb (gA σ 6) o n)) (hg : yG (cb (gA σ 6) o n) k = true) : f_M_nameEnd F m (nI o) (nI k) (mh m h σ) = some (nI (o + (oP (cb (gA σ 6) o n) (oX (cb (gA σ 6) o n)) + yN (cb (gA σ 6) o n) k) + yL (cb (gA σ 6) o n) k), mh m h σ) := by
  have hPZ := w2_x hw (w2_M0 hk)
  obtain ⟨g1, g2, g3⟩ := yG_n hg
  have hz : (cb (gA σ 6) o n) (oP (cb (gA σ 6) o n) (oX (cb (gA σ 6) o n)) + yN (cb (gA σ 6) o n) k + yL (cb (gA σ 6) o n) k) = 0 := run_z (by show yL _ _ < 21; omega)
  have hnz : ∀ i, i < yL (cb (gA σ 6) o n) k → (cb (gA σ 6) o n) (oP (cb (gA σ 6) o n) (oX (cb (gA σ 6) o n)) + yN (cb (gA σ 6) o n) k + i) ≠ 0 := fun i hi => run_nz hi
  have hl := ar_nm hn hPZ g3
  unfold f_M_nameEnd
  rw [e_o hm, bs, q_nameAt (Mmb hm hB) hF hw hn hk, xb_mk]
  generalize yL (cb (gA σ 6) o n) k = L at *
  generalize hp : oP (cb (gA σ 6) o n) (oX (cb (gA σ 6) o n)) + yN (cb (gA σ 6) o n) k = p at *
  have key : ∀ (d l f : Nat), l + d = L → d < f → f_M_nameEnd_7 F f m (nI (o + p + l)) (mh m h σ) = some (nI (o + p + L), mh m h σ) := by
    intro d
    induction d with
    | zero =>
      intro l f hl' hf
      obtain ⟨f, rfl⟩ : ∃ x, f = x + 1 := ⟨f - 1, by omega⟩
      have hlL : l = L := by omega
      have e : gA σ 6 (o + p + l) = 0 := by
        rw [isB_0 (hB _), hlL]
        unfold cb at hz
        rw [if_pos (by omega), ← Nat.add_assoc] at hz
        exact hz
      unfold f_M_nameEnd_7 f_M_nameEnd_22
      rw [Mr6 hm, bs, Ma6 hm (by omega), bs, if_pos e, hlL]
    | succ d ih =>
      intro l f hl' hf
      obtain ⟨f, rfl⟩ : ∃ x, f = x + 1 := ⟨f - 1, by omega⟩
      have e : ¬ gA σ 6 (o + p + l) = 0 := by
        rw [isB_0 (hB _)]
        have h1 := hnz l (by omega)
        unfold cb at h1
        rw [if_pos (by omega), ← Nat.add_assoc] at h1
        exact h1
      unfold f_M_nameEnd_7
      rw [Mr6 hm, bs, Ma6 hm (by omega), bs, if_neg e, nI_add]
      exact ih (l + 1) f (by omega) (by omega)
  have := key L 0 F (by omega) (by omega)
  rw [Nat.add_zero] at this
  exact this
theorem yT_src (hB : ∀ k, isB (gA σ 6 k)) (hw : w2 (cb (gA σ 6) o n) n) (hn : o + n ≤ 65536) (hk : k < oM (cb (gA σ 6) o n)) (hg : yG (cb (gA σ 6) o n) k = true) : srcT (gA σ 6) (o + (oP (cb (gA σ 6) o n) (oX (cb (gA σ 6) o n)) + yN (cb (gA σ 6) o n) k)) (yT (cb (gA σ 6) o n) k) ∧ okN (yT (cb (gA σ 6) o n) k) ∧ (yT (cb (gA σ 6) o n) k).length = yL (cb (gA σ 6) o n) k ∧ o + (oP (cb (gA σ 6) o n) (oX (cb (gA σ 6) o n)) + yN (cb (gA σ 6) o n) k) + yL (cb (gA σ 6) o n) k ≤ 65536 := by
  have hPZ := w2_x hw (w2_M0 hk)
  obtain ⟨g1, g2, g3⟩ := yG_n hg
  have hl := ar_nm hn hPZ g3
  have hlt := tk_lt (cb_lt (gA σ 6) o n) (oP (cb (gA σ 6) o n) (oX (cb (gA σ 6) o n)) + yN (cb (gA σ 6) o n) k) (yL (cb (gA σ 6) o n) k)
  unfold yT
  generalize yL (cb (gA σ 6) o n) k = L at *
  generalize oP (cb (gA σ 6) o n) (oX (cb (gA σ 6) o n)) + yN (cb (gA σ 6) o n) k = p at *
  refine ⟨?_, ⟨by rw [tk_len]; exact g2, hlt⟩, tk_len _ _ _, by omega⟩
  intro j x hx
  have hj : j < L := by
    have := (List.getElem?_eq_some_iff.mp hx).1
    rw [tk_len] at this
    exact this
  rw [tk_get _ _ _ _ hj] at hx
  have hx2 := Option.some.inj hx
  unfold cb at hx2
  rw [if_pos (by omega), ← Nat.add_assoc] at hx2
  rw [← hx2]
  exact hB _
theorem q_nameOf {xs : px_NL} (hm : m ≤ h.length) (hF : 4096 < F) (hB : ∀ k, isB (gA σ 6 k)) (hw : w2 (cb (gA σ 6) o n) n) (hn : o + n ≤ 65536) (hk : k < oM (cb (gA σ 6) o n)) (hg : yG (cb (gA σ 6) o n) k = true) (hr : RL σ xs) : f_M_nameOf F m (nI o) (nI k) (mh m h σ) = some (tdA (idx (yT (cb (gA σ 6) o n) k) 0 (xs.map Prod.fst)), mh m h σ) := by
  obtain ⟨s1, s2, s3, s4⟩ := yT_src hB hw hn hk hg
  unfold f_M_nameOf
  rw [Mr6 hm, bs, e_o hm, bs, q_nameAt (Mmb hm hB) (by omega) hw hn hk, xb_mk, e_o hm, bs, q_nameEnd hm hB (by omega) hw hn hk hg, xb_mk, e_o hm, bs, ← s3, q_find (M := 65536) hm hF hr.1 (fun i hi => Ma6 hm hi) s1 s2.2 (by rw [s3]; exact s4) (by decide), xb_mk]
theorem q_enter {xs : px_NL} (hm : m ≤ h.length) (hF : 4096 < F) (hB : ∀ k, isB (gA σ 6 k)) (hw : w2 (cb (gA σ 6) o n) n) (hn : o + n ≤ 65536) (hk : k < oM (cb (gA σ 6) o n)) (hg : yG (cb (gA σ 6) o n) k = true) (hr : RL σ xs) (hl : xs.length < 4096) : ∃ σ', f_M_enter F m (nI o) (nI k) (mh m h σ) = some (nI (plc (yT (cb (gA σ 6) o n) k) (xs.map Prod.fst)), mh m h σ') ∧ RL σ' (entL (yT (cb (gA σ 6) o n) k) xs) ∧ frJ σ σ' := by
  obtain ⟨s1, s2, s3, s4⟩ := yT_src hB hw hn hk hg
  obtain ⟨σ', e1, e2, e3⟩ := q_enteredL (F := F) (pa := m + 3) (ks := 6) (M := 65536) hm hF hr (fun σ i hi => Ma6 hm hi) (by decide) (by decide) s2 s1 (by rw [s3]; exact s4) (by decide) hl
  refine ⟨σ', ?_, e2, e3⟩
  unfold f_M_enter
  rw [Mr6 hm, bs, e_o hm, bs, q_nameAt (Mmb hm hB) (by omega) hw hn hk, xb_mk, e_o hm, bs, q_nameEnd hm hB (by omega) hw hn hk hg, xb_mk, e_o hm, bs, ← s3, e1, xb_mk]
end MNA
