/-! the reference's cause and sum: safe (steps spelled out by sf/pp.py) -/
/-- whom a member was taken for: nobody, or a name that is there -/
def CAu (σ : px_S) (ws : List (List Nat)) : Prop := ∀ q, q < 64 → gA σ 18 q = 0 ∨ gA σ 40 q = Int32.ofInt (-1) ∨ ∃ i, i < ws.length ∧ gA σ 40 q = nI i
/-- OUT's size and bytes -/
def OUo (σ : px_S) : Prop := (∃ n, n ≤ 65536 ∧ gI σ 4 = nI n) ∧ ∀ k, isB (gA σ 3 k)
section MCA
variable {F m : Nat} {h : px_H} {σ0 σ : px_S} {fs : px_FS} {ws : List (List Nat)}
def CI (σ0 σ : px_S) : Prop := FR [0, 4] [] [3] [] σ0 σ ∧ OUo σ
theorem CI_0 (ho : OUo σ0) (hf : FR [0] [] [] [] σ0 σ) : CI σ0 σ := ⟨FR_mono hf (by decide) (by decide) (by decide) (by decide), by
  obtain ⟨⟨n, hn, en⟩, hb⟩ := ho
  exact ⟨⟨n, hn, (FR0_I hf (by decide)).trans en⟩, by rw [hf.2.2.1 3 (by decide)]; exact hb⟩⟩
theorem sm_wI {I I1 : px_S → Prop} {α : Type} {V : α → Prop} {o : Option (α × px_H)} (w : Sm m h I1 V o) (g : ∀ σ, I1 σ → I σ) : Sm m h I V o := by
  obtain ⟨v, σ, e, hv, hI⟩ := w
  exact ⟨v, σ, e, hv, g _ hI⟩
theorem sm_cause {a1 a2 : Int32} (hm : m ≤ h.length) (hF : 20 < F) (hr : RF σ0 fs) (hn : RNm σ0 ws) (hca : CAu σ0 ws) (ho : OUo σ0) (hf : FR [0] [] [] [] σ0 σ) : Sm m h (CI σ0) Any (f_M_cause F m a1 a2 (mh m h σ)) := by
  have hr1 := RF_0 hr hf
  have h8 := hr1.2.1
  have key : ∀ {i k : Nat}, i < 8 → k < 8 → Sm m h (CI σ0) Any (f_M_cause_48 F m (nI i) (nI k) m (nI 0) (mh m h σ)) := fun {i k} hi hk => by
    unfold f_M_cause_48 f_M_cause_91
    rw [ix8]
    have hq : 8 * i + k < 64 := by omega
    have hx : ∃ q, q < 64 ∧ nI (8 * i + k) = nI q := ⟨_, hq, rfl⟩
    have hqq : ∀ j, nI (8 * i + k) = nI j → j < 64 → j = 8 * i + k := fun j ej hj => ((nI_eq (show 8 * i + k < 2 ^ 31 by omega) (show j < 2 ^ 31 by omega)).mp ej).symm
    refine sm_o hm (fun _ => sm_t0 hm hf (fun σ hi' => sm_i (fun _ => ?_) (fun hc => absurd rfl hc)))
    have fin : ∀ {v : Int32}, Sm m h (CI σ0) Any (some (v, mh m h σ)) := sm_r any (CI_0 ho hi')
    refine sm_gR hm (c := 12) rfl (sm_aI hm (k := 19) (n := 8) rfl rfl ⟨i, hi, rfl⟩ (fun _ _ _ => sm_i (fun _ => fin) (fun _ => ?_)))
    refine sm_gR hm (c := 11) rfl (sm_aI hm (k := 18) (n := 64) rfl rfl hx (fun j hj ej => sm_i (fun _ => fin) (fun c18 => ?_)))
    obtain rfl := hqq j ej hj
    refine sm_gR hm (c := 30) rfl (sm_aI hm (k := 40) (n := 64) rfl rfl hx (fun j2 hj2 ej2 => ?_))
    obtain rfl := hqq j2 ej2 hj2
    rw [hi'.2.2.1 18 (by decide)] at c18
    have e40 : gA σ 40 = gA σ0 40 := hi'.2.2.1 40 (by decide)
    have e21 : gA σ 21 = gA σ0 21 := hi'.2.2.1 21 (by decide)
    have e22 : gA σ 22 = gA σ0 22 := hi'.2.2.1 22 (by decide)
    rw [e40]
    rcases hca _ hq with w | w | ⟨x, hx2, w⟩
    · exact absurd w c18
    · rw [w]
      exact sm_i (fun hc => absurd hc (by decide)) (fun _ => fin)
    · obtain ⟨t, ht⟩ : ∃ t, ws[x]? = some t := ⟨_, List.getElem?_eq_getElem hx2⟩
      obtain ⟨z1, z2, z3⟩ := hn.2.2 x t ht
      have hl := hn.2.1
      rw [w]
      refine sm_i (fun _ => ?_) (fun _ => fin)
      refine sm_gR hm (c := 13) rfl (sm_gR hm (c := 30) rfl (sm_aI hm (k := 40) (n := 64) rfl rfl hx (fun j3 hj3 ej3 => ?_)))
      obtain rfl := hqq j3 ej3 hj3
      rw [e40, w]
      refine sm_gR hm (c := 14) rfl (sm_gR hm (c := 30) rfl (sm_aI hm (k := 40) (n := 64) rfl rfl hx (fun j4 hj4 ej4 => ?_)))
      obtain rfl := hqq j4 ej4 hj4
      rw [e40, w]
      refine sm_aI hm (k := 22) (n := 4096) rfl rfl ⟨x, by omega, rfl⟩ (fun j5 hj5 ej5 => ?_)
      obtain rfl : j5 = x := ((nI_eq (show x < 2 ^ 31 by omega) (show j5 < 2 ^ 31 by omega)).mp ej5).symm
      rw [e22, z2, show nI 20 * nI j5 = nI (20 * j5) from (Int32.ofNat_mul 20 j5).symm]
      obtain ⟨σ', e, g1, g2, g3, g4, g5⟩ := q_say (F := F) (σ := σ) (pa := m + 13) (ks := 21) (M := 81920) (p := 20 * j5) (w := t) hm hF (fun σ i hi => Ma21 hm hi) (by decide) z1 (fun j y hy => by rw [e21]; exact z3 j y hy) (by have := z1.1; omega) (by rw [hi'.2.2.1 3 (by decide)]; exact ho.2)
      refine sm_o hm (fun _ => ?_)
      rw [e, xb_mk]
      refine sm_gI hm rfl (sm_r any ⟨⟨fun k hk => ?_, fun k _ => (g3 k).trans (hi'.2.1 k List.not_mem_nil), fun k hk => ?_, fun k _ => (g5 k).trans (hi'.2.2.2 k List.not_mem_nil)⟩, ⟨_, g1.2.1, g1.1⟩, g1.2.2.1⟩)
      · simp only [List.mem_cons, List.not_mem_nil, or_false, not_or] at hk
        exact (g2 k hk.2).trans (FR0_I hi' hk.1)
      · simp only [List.mem_cons, List.not_mem_nil, or_false] at hk
        exact (g4 k hk).trans (hi'.2.2.1 k List.not_mem_nil)
  have bad : Sm m h (CI σ0) Any (f_M_cause_48 F m a1 a2 m (nI 1) (mh m h σ)) := by
    refine sm_wI (I1 := FR [0] [] [] [] σ0) ?_ (fun σ hi => CI_0 ho hi)
    unfold f_M_cause_48
    repeat' (first | exact absurd (show nI 0 = 0 from rfl) (by assumption) | exact absurd (show nI 1 = 0 by assumption) (by decide) | ((with_reducible refine sm_i (fun hc => ?_) (fun hc => ?_))) | ((with_reducible refine sm_gI hm (by with_unfolding_all exact rfl) ?_)) | ((with_reducible refine sm_gJ hm (by with_unfolding_all exact rfl) ?_)) | ((with_reducible refine sm_gR hm (by with_unfolding_all exact rfl) ?_)) | ((with_reducible refine sm_o hm (fun l => ?_))) | ((with_reducible refine sm_r ?_ ?_); (first | exact any | assumption | first | exact ⟨false, rfl⟩ | exact ⟨true, rfl⟩ | assumption); assumption) | ((with_reducible refine sm_z ?_ ?_ ?_); (first | exact ⟨false, rfl⟩ | exact ⟨true, rfl⟩ | assumption); (first | exact any | exact ⟨false, rfl⟩ | exact ⟨true, rfl⟩ | assumption); assumption) | ((with_reducible refine sm_t0 hm (by assumption) (fun σ hi => ?_))) | ((with_reducible refine sm_tA hm (by assumption) (fun σ hi => ?_))) | ((with_reducible refine sm_tB hm (by assumption) (fun σ hi => ?_))) | ((with_reducible refine sm_tC hm (by assumption) (fun σ hi => ?_))))
  unfold f_M_cause f_M_cause_34 f_M_cause_39 f_M_cause_43
  refine sm_i (fun _ => bad) (fun c1 => sm_gI hm rfl (sm_i (fun _ => bad) (fun c2 => sm_i (fun _ => bad) (fun c3 => ?_))))
  rw [hr1.1] at c2
  obtain ⟨i, hi, rfl⟩ := ixG c1 c2 (Nat.le_refl _)
  obtain ⟨l, hl, el⟩ := RF_8 hr1 hi
  refine sm_gR hm (c := 5) rfl (sm_i (fun hc => absurd hc c1) (fun _ => sm_gI hm rfl (sm_i (fun _ => ?_) (fun hc => ?_))))
  · refine sm_aI hm (k := 8) (n := 8) rfl rfl ⟨i, by omega, rfl⟩ (fun j hj ej => ?_)
    obtain rfl : j = i := ((nI_eq (show i < 2 ^ 31 by omega) (show j < 2 ^ 31 by omega)).mp ej).symm
    refine sm_i (fun c4 => ?_) (fun _ => bad)
    rw [el] at c4
    obtain ⟨k, hk, rfl⟩ := ixL c3 c4 hl
    exact key (by omega) hk
  · exfalso
    rw [hr1.1] at hc
    exact hc (Int32.not_le.mp c2)
end MCA
