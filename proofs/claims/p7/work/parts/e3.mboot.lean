/-! the reference boots: what is tried (steps spelled out by sf/pp.py) -/
section MBO
variable {F m : Nat} {h : px_H} {σ0 σ : px_S}
theorem sm_sJW {I I1 : px_S → Prop} {α : Type} {V : α → Prop} {f : px_H → Option (α × px_H)} {c k t n j : Nat} {v : Int64} (hm : m ≤ h.length) (hr : mr k = (3, c, t, n)) (hj : j < n) (hI : I1 (sB σ k (vp_updL (gB σ k) j v))) (g : ∀ σ, I1 σ → Sm m h I V (f (mh m h σ))) : Sm m h I V ((xsJ (mh m h σ) t (m + c) (nI j) v).bind f) := by
  have e := e_sJ (σ := σ) (k := k) (i := j) hm (by rw [hr]) (by rw [hr]; exact hj) v
  rw [hr] at e
  rw [e, bs]; exact g _ hI
theorem t_num_7 {p : Nat} (hm : m ≤ h.length) : ∀ (d f w : Nat), d < f → p + d ≤ 65536 → (w + 1) * 256 ^ d ≤ 2 ^ 64 → ∃ x, x < (w + 1) * 256 ^ d ∧ f_M_triedNum_7 F f m (nI p) (lN w) (nI d - nI 1) (mh m h σ) = some (lN x, mh m h σ) := by
  intro d
  induction d with
  | zero =>
    intro f w hf _ _
    obtain ⟨f, rfl⟩ : ∃ x, f = x + 1 := ⟨f - 1, by omega⟩
    unfold f_M_triedNum_7 f_M_triedNum_38
    exact ⟨w, by omega, by rw [if_pos (by decide)]⟩
  | succ d ih =>
    intro f w hf hd hm2
    obtain ⟨f, rfl⟩ : ∃ x, f = x + 1 := ⟨f - 1, by omega⟩
    rw [Nat.pow_succ, Nat.mul_comm (256 ^ d) 256, ← Nat.mul_assoc] at hm2
    have h1 : 1 ≤ 256 ^ d := Nat.pos_of_ne_zero (by simp)
    have h2 : (w + 1) * 256 ≤ (w + 1) * 256 * 256 ^ d := Nat.le_mul_of_pos_right _ h1
    rw [pk_sub (by omega), Nat.add_sub_cancel]
    have hb := b8_lt (gA σ 99 (p + d))
    have h3 : (w * 256 + b8 (gA σ 99 (p + d)) + 1) * 256 ^ d ≤ (w + 1) * 256 * 256 ^ d := Nat.mul_le_mul_right _ (by omega)
    unfold f_M_triedNum_7
    rw [if_neg (nI_pos (by omega)), Mr99 hm, bs, nI_add, Ma99 hm (by omega), bs, nI_back, sh_byte w _ (by omega)]
    obtain ⟨x, hx, e⟩ := ih f (w * 256 + b8 (gA σ 99 (p + d))) (by omega) (by omega) (by omega)
    refine ⟨x, ?_, e⟩
    rw [Nat.pow_succ, Nat.mul_comm (256 ^ d) 256, ← Nat.mul_assoc]
    omega
theorem t_num {p k : Nat} (hm : m ≤ h.length) (hF : 8 < F) (hk : k ≤ 8) (hp : p + k ≤ 65536) : ∃ x, x < 256 ^ k ∧ f_M_triedNum F m (nI p) (nI k) (mh m h σ) = some (lN x, mh m h σ) := by
  have hp' : 256 ^ k ≤ 256 ^ 8 := Nat.pow_le_pow_right (by decide) hk
  obtain ⟨x, hx, e⟩ := t_num_7 (F := F) (σ := σ) (p := p) hm k F 0 (by omega) hp (by omega)
  exact ⟨x, by omega, e⟩
theorem sm_tn {I : px_S → Prop} {α : Type} {V : α → Prop} {f : Int64 → px_H → Option (α × px_H)} {p k : Nat} (hm : m ≤ h.length) (hF : 8 < F) (hk : k ≤ 8) (hp : p + k ≤ 65536) (g : ∀ x, x < 256 ^ k → Sm m h I V (f (lN x) (mh m h σ))) : Sm m h I V (xb (f_M_triedNum F m (nI p) (nI k) (mh m h σ)) f) := by
  obtain ⟨x, hx, e⟩ := t_num (F := F) (σ := σ) (p := p) (k := k) hm hF hk hp
  rw [e, xb_mk]; exact g x hx
theorem sm_isExe {s : Nat} (hm : m ≤ h.length) (hF : 8 < F) (es : gI σ 101 = nI s) (hs : s ≤ 65536) : Sm m h (fun σ' => σ' = σ) (fun v => v = nI 0 ∨ (v = nI 1 ∧ 64 ≤ s)) (f_M_isExecutable F m (mh m h σ)) := by
  have z0 : Sm m h (fun σ' => σ' = σ) (fun v => v = nI 0 ∨ (v = nI 1 ∧ 64 ≤ s)) (xz (nI 0) (mh m h σ)) := sm_z ⟨false, rfl⟩ (Or.inl rfl) rfl
  unfold f_M_isExecutable f_M_isExecutable_55 f_M_isExecutable_56 f_M_isExecutable_91 f_M_isExecutable_92
  refine sm_gI hm rfl (sm_i (fun _ => ?_) (fun hc => ?_))
  · exact sm_i (fun _ => z0) (fun hc => absurd rfl hc)
  · rw [es] at hc
    have h64 : 64 ≤ s := Nat.lt_of_not_le (fun w => hc (nI_le w (by omega)))
    have z1 : Sm m h (fun σ' => σ' = σ) (fun v => v = nI 0 ∨ (v = nI 1 ∧ 64 ≤ s)) (xz (nI 1) (mh m h σ)) := sm_z ⟨true, rfl⟩ (Or.inr ⟨rfl, h64⟩) rfl
    repeat' (first | (exact z0) | (exact z1) | ((with_reducible refine sm_tn hm hF ?_ ?_ (fun x hx => ?_)); decide; decide) | exact absurd (show nI 0 = 0 from rfl) (by assumption) | exact absurd (show nI 1 = 0 by assumption) (by decide) | ((with_reducible refine sm_i (fun hc => ?_) (fun hc => ?_))) | ((with_reducible refine sm_gI hm (by with_unfolding_all exact rfl) ?_)) | ((with_reducible refine sm_gJ hm (by with_unfolding_all exact rfl) ?_)) | ((with_reducible refine sm_gR hm (by with_unfolding_all exact rfl) ?_)) | ((with_reducible refine sm_o hm (fun l => ?_))) | ((with_reducible refine sm_r ?_ ?_); (first | exact any | assumption | first | exact ⟨false, rfl⟩ | exact ⟨true, rfl⟩ | assumption); assumption) | ((with_reducible refine sm_z ?_ ?_ ?_); (first | exact ⟨false, rfl⟩ | exact ⟨true, rfl⟩ | assumption); (first | exact any | exact ⟨false, rfl⟩ | exact ⟨true, rfl⟩ | assumption); assumption))
end MBO
