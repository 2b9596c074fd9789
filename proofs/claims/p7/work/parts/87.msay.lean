/-! OUT of the reference; say -/
def ROu (σ : px_S) (n : Nat) (b : Nat → Nat) : Prop := gI σ 4 = nI n ∧ n ≤ 65536 ∧ (∀ k, isB (gA σ 3 k)) ∧ cb (gA σ 3) 0 n = b
/-- the bytes of a list -/
def lb (w : List Nat) (i : Nat) : Nat := w.getD i 0
section MSY
variable {F m p M ks pa : Nat} {h : px_H} {w : List Nat}
theorem q_say_3 (hm : m ≤ h.length) (hT : ∀ (σ : px_S) i, i < M → xaI (mh m h σ) 0 pa (nI i) = some (gA σ ks i)) (hks : ks ≠ 3) (hw : okN w) (hM : p + w.length ≤ M) : ∀ (d k f : Nat) (σ : px_S) (B : Nat → Int32), k + d = w.length → d < f → srcT (gA σ ks) p w → gA σ 3 = put B (fun j => gA σ ks (p + j)) 0 k → f_M_say_3 F f m pa (nI p) (nI w.length) (nI k) (mh m h σ) = some ((), mh m h (sI (sA σ 3 (put B (fun j => gA σ ks (p + j)) 0 w.length)) 4 (nI w.length))) := by
  have hwl := hw.1
  intro d
  induction d with
  | zero =>
    intro k f σ B hk hf hs h3
    obtain ⟨f, rfl⟩ : ∃ x, f = x + 1 := ⟨f - 1, by omega⟩
    unfold f_M_say_3 f_M_say_28
    rw [if_pos (nI_le (by omega) (by omega)), Mp4 hm, bs, show w.length = k by omega, ← h3, sA_self]
  | succ d ih =>
    intro k f σ B hk hf hs h3
    obtain ⟨f, rfl⟩ : ∃ x, f = x + 1 := ⟨f - 1, by omega⟩
    obtain ⟨y, hy⟩ : ∃ y, w[k]? = some y := ⟨w[k]'(by omega), List.getElem?_eq_getElem (by omega)⟩
    have hB : isB (gA σ ks (p + k)) := by
      rw [hs k y hy]
      exact isB_n8 y (hw.2 y (List.mem_of_getElem? hy))
    have e : gA (sA σ 3 (put B (fun j => gA σ ks (p + j)) 0 (k + 1))) ks = gA σ ks := by rw [gA_sA, if_neg hks]
    have hps := put_s B (fun j => gA σ ks (p + j)) 0 k
    rw [Nat.zero_add] at hps
    unfold f_M_say_3
    rw [if_neg (nI_ge (by omega) (by omega)), Mr3 hm, bs, nI_add, hT σ (p + k) (by omega), bs, isB_n hB, Ms3 hm (by omega), bs, h3]
    rw [show upd (put B (fun j => gA σ ks (p + j)) 0 k) k (gA σ ks (p + k)) = _ from hps, nI_add]
    have := ih (k + 1) f (sA σ 3 (put B (fun j => gA σ ks (p + j)) 0 (k + 1))) B (by omega) (by omega) (by rw [e]; exact hs) (by rw [e]; rfl)
    rw [e, sA_sA] at this
    exact this
theorem q_say {σ : px_S} (hm : m ≤ h.length) (hF : 20 < F) (hT : ∀ (σ : px_S) i, i < M → xaI (mh m h σ) 0 pa (nI i) = some (gA σ ks i)) (hks : ks ≠ 3) (hw : okN w) (hs : srcT (gA σ ks) p w) (hM : p + w.length ≤ M) (hB : ∀ k, isB (gA σ 3 k)) : ∃ σ', f_M_say F m pa (nI p) (nI w.length) (mh m h σ) = some ((), mh m h σ') ∧ ROu σ' w.length (lb w) ∧ (∀ k, k ≠ 4 → gI σ' k = gI σ k) ∧ (∀ k, gJ σ' k = gJ σ k) ∧ (∀ k, k ≠ 3 → gA σ' k = gA σ k) ∧ (∀ k, gB σ' k = gB σ k) := by
  have hwl := hw.1
  refine ⟨sI (sA σ 3 (put (gA σ 3) (fun j => gA σ ks (p + j)) 0 w.length)) 4 (nI w.length), ?_, ⟨?_, by omega, ?_, ?_⟩, fun k hk => by rw [gI_sI, if_neg hk, gI_sA], fun _ => rfl, fun k hk => by rw [gA_sI, gA_sA, if_neg hk], fun _ => rfl⟩
  · unfold f_M_say
    exact q_say_3 hm hT hks hw hM w.length 0 F σ (gA σ 3) (by omega) (by omega) hs (put_0 _ _ _).symm
  · rw [gI_sI, if_pos rfl]
  · intro k
    show isB (put (gA σ 3) (fun j => gA σ ks (p + j)) 0 w.length k)
    unfold put
    split
    · rename_i c
      obtain ⟨y, hy⟩ : ∃ y, w[k - 0]? = some y := ⟨w[k - 0]'(by omega), List.getElem?_eq_getElem (by omega)⟩
      show isB (gA σ ks (p + (k - 0)))
      rw [hs _ y hy]
      exact isB_n8 y (hw.2 y (List.mem_of_getElem? hy))
    · exact hB k
  · funext i
    show (if i < w.length then b8 (put (gA σ 3) (fun j => gA σ ks (p + j)) 0 w.length (0 + i)) else 0) = w.getD i 0
    rw [List.getD_eq_getElem?_getD]
    by_cases c : i < w.length
    · obtain ⟨y, hy⟩ : ∃ y, w[i]? = some y := ⟨w[i], List.getElem?_eq_getElem c⟩
      rw [if_pos c, hy]
      unfold put
      rw [if_pos (by omega), Nat.zero_add, Nat.sub_zero]
      show b8 (gA σ ks (p + i)) = _
      rw [hs i y hy, b8_n y (hw.2 y (List.mem_of_getElem? hy))]
      rfl
    · rw [if_neg c, List.getElem?_eq_none (by omega)]
      rfl
end MSY
