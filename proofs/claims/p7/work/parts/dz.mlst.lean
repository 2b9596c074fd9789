/-! the reference's sum and list: safe (steps spelled out by sf/pp.py) -/
section MLS
variable {F m : Nat} {h : px_H} {σ0 σ : px_S} {fs : px_FS}
/-- a member that is there: what the files say of it -/
theorem mem_ob (hr : RF σ fs) {i k : Nat} (hi : i < fs.length) (hk : ∃ l, gA σ 8 i = nI l ∧ l ≤ 8 ∧ k < l) : ∃ o n b sk, obAt fs (8 * i + k) = some (o, n, b, sk) := by
  obtain ⟨l', e', h8, hk'⟩ := hk
  obtain ⟨x, hx⟩ : ∃ x, fs[i]? = some x := ⟨_, List.getElem?_eq_getElem hi⟩
  obtain ⟨_, _, _, _, l, hl, _⟩ := hr.2.2.2 i x hx
  obtain ⟨w1, w2, _⟩ := RF_row hr hx hl
  have el : l.length = l' := (nI_eq (by omega) (by omega)).mp (w1.symm.trans e')
  have e := obAt_none hr hx hl (show k < 8 by omega)
  have hy : l[k]? = some l[k] := List.getElem?_eq_getElem (by omega)
  rw [hy] at e
  exact ⟨_, _, _, _, e⟩
theorem sm_sum_120 {g : Int32} {o n : Nat} (hm : m ≤ h.length) (hF : 24 < F) (hB : ∀ k, isB (gA σ 6 k)) (hw : w2 (cb (gA σ 6) o n) n) (hon : o + n ≤ 65536) : ∀ (d j f : Nat) (v : Int64), j + d = oS (cb (gA σ 6) o n) → d < f → Sm m h (fun σ' => σ' = σ) Any (f_M_sum_120 F f m g (nI o) v (nI j) (mh m h σ)) := by
  have hb := Mmb hm hB
  have hrk := w1_rk hw.1 hon
  have h24 := hrk.2.2
  intro d
  induction d with
  | zero =>
    intro j f v hj hf
    obtain ⟨f, rfl⟩ : ∃ y, f = y + 1 := ⟨f - 1, by omega⟩
    unfold f_M_sum_120 f_M_sum_177
    rw [e_o hm, bs, q_sections hb (by omega) hrk.1, xb_mk, if_pos (nI_le (by omega) (by omega))]
    exact sm_r any rfl
  | succ d ih =>
    intro j f v hj hf
    obtain ⟨f, rfl⟩ : ∃ y, f = y + 1 := ⟨f - 1, by omega⟩
    have hjS : j < oS (cb (gA σ 6) o n) := by omega
    unfold f_M_sum_120 f_M_sum_177 f_M_sum_167 f_M_sum_168
    rw [e_o hm, bs, q_sections hb (by omega) hrk.1, xb_mk, if_neg (nI_ge (by omega) (by omega)), e_o hm, bs, q_isKept hb (by omega) hrk hjS, xb_mk, nI_add]
    refine sm_i (fun _ => ih _ _ _ (by omega) (by omega)) (fun _ => ?_)
    rw [e_o hm, bs, q_group hb (by omega) hrk hjS, xb_mk]
    refine sm_i (fun _ => ?_) (fun _ => ih _ _ _ (by omega) (by omega))
    rw [e_o hm, bs, q_size hb (by omega) hrk hjS, xb_mk]
    exact ih _ _ _ (by omega) (by omega)
theorem sm_sum {a1 a2 g : Int32} (hm : m ≤ h.length) (hF : 24 < F) (hr : RF σ0 fs) (hf : FR [0] [] [] [] σ0 σ) : Sm m h (FR [0] [] [] [] σ0) Any (f_M_sum F m a1 a2 g (mh m h σ)) := by
  have hr1 := RF_0 hr hf
  have h8 := hr1.2.1
  have bad2 : ∀ σ, FR [0] [] [] [] σ0 σ → Sm m h (FR [0] [] [] [] σ0) Any (f_M_sum_92 F m a1 a2 g m (nI 1) (mh m h σ)) := fun σ hi => by
    unfold f_M_sum_92
    repeat' (first | exact absurd (show nI 0 = 0 from rfl) (by assumption) | exact absurd (show nI 1 = 0 by assumption) (by decide) | ((with_reducible refine sm_i (fun hc => ?_) (fun hc => ?_))) | ((with_reducible refine sm_gI hm (by with_unfolding_all exact rfl) ?_)) | ((with_reducible refine sm_gJ hm (by with_unfolding_all exact rfl) ?_)) | ((with_reducible refine sm_gR hm (by with_unfolding_all exact rfl) ?_)) | ((with_reducible refine sm_o hm (fun l => ?_))) | ((with_reducible refine sm_r ?_ ?_); (first | exact any | assumption | first | exact ⟨false, rfl⟩ | exact ⟨true, rfl⟩ | assumption); assumption) | ((with_reducible refine sm_z ?_ ?_ ?_); (first | exact ⟨false, rfl⟩ | exact ⟨true, rfl⟩ | assumption); (first | exact any | exact ⟨false, rfl⟩ | exact ⟨true, rfl⟩ | assumption); assumption) | ((with_reducible refine sm_t0 hm (by assumption) (fun σ hi => ?_))) | ((with_reducible refine sm_tA hm (by assumption) (fun σ hi => ?_))) | ((with_reducible refine sm_tB hm (by assumption) (fun σ hi => ?_))) | ((with_reducible refine sm_tC hm (by assumption) (fun σ hi => ?_))))
  have bad : Sm m h (FR [0] [] [] [] σ0) Any (f_M_sum_47 F m a1 a2 g (nI 1) (mh m h σ)) := by
    unfold f_M_sum_47 f_M_sum_87
    exact sm_i (fun hc => absurd hc (by decide)) (fun _ => bad2 σ hf)
  unfold f_M_sum f_M_sum_33 f_M_sum_38 f_M_sum_42
  refine sm_i (fun _ => bad) (fun c1 => sm_gI hm rfl (sm_i (fun _ => bad) (fun c2 => sm_i (fun _ => bad) (fun c3 => ?_))))
  rw [hr1.1] at c2
  obtain ⟨i, hi, rfl⟩ := ixG c1 c2 (Nat.le_refl _)
  obtain ⟨l, hl, el⟩ := RF_8 hr1 hi
  refine sm_gR hm (c := 5) rfl (sm_i (fun hc => absurd hc c1) (fun _ => sm_gI hm rfl (sm_i (fun _ => ?_) (fun hc => ?_))))
  · refine sm_aI hm (k := 8) (n := 8) rfl rfl ⟨i, by omega, rfl⟩ (fun j hj ej => ?_)
    obtain rfl : j = i := ((nI_eq (show i < 2 ^ 31 by omega) (show j < 2 ^ 31 by omega)).mp ej).symm
    refine sm_i (fun c4 => ?_) (fun _ => bad)
    rw [el] at c4
    obtain ⟨k, hk, rfl⟩ := ixL c3 c4 (Nat.le_refl l)
    obtain ⟨o, n, b, sk, hob⟩ := mem_ob hr1 hi ⟨l, el, hl, hk⟩
    obtain ⟨q1, q2, q3, q4, q5, q6, q7⟩ := RF_ob hr1 hob
    have hx : ∃ q, q < 64 ∧ nI (8 * j + k) = nI q := ⟨_, q1, rfl⟩
    have hqq : ∀ j', nI (8 * j + k) = nI j' → j' < 64 → j' = 8 * j + k := fun j' ej hj => ((nI_eq (show 8 * j + k < 2 ^ 31 by omega) (show j' < 2 ^ 31 by omega)).mp ej).symm
    unfold f_M_sum_47 f_M_sum_74 f_M_sum_87
    rw [ix8]
    refine sm_i (fun _ => sm_gR hm (c := 9) rfl (sm_i (fun _ => ?_) (fun hc => absurd rfl hc))) (fun hc => absurd rfl hc)
    refine sm_aI hm (k := 12) (n := 64) rfl rfl hx (fun j2 hj2 ej2 => ?_)
    obtain rfl := hqq j2 ej2 hj2
    rw [q4]
    refine sm_i (fun hsk => sm_i (fun _ => bad2 σ hf) (fun _ => sm_i (fun _ => ?_) (fun _ => bad2 σ hf))) (fun _ => bad2 σ hf)
    have hskf : sk = false := by
      cases sk with
      | false => rfl
      | true => exact absurd hsk (by decide)
    have he := q7 hskf
    unfold f_M_sum_92
    rw [ix8]
    refine sm_o hm (fun _ => sm_t0 hm hf (fun σ' hi' => sm_i (fun _ => ?_) (fun hc => absurd rfl hc)))
    refine sm_gR hm (c := 6) rfl (sm_aI hm (k := 9) (n := 64) rfl rfl hx (fun j3 hj3 ej3 => ?_))
    obtain rfl := hqq j3 ej3 hj3
    have e6 : gA σ' 6 = gA σ 6 := (hi'.2.2.1 6 (by decide)).trans (hf.2.2.1 6 (by decide)).symm
    rw [(hi'.2.2.1 9 (by decide)).trans (hf.2.2.1 9 (by decide)).symm, q2]
    have hw2 : w2 (cb (gA σ' 6) o n) n := by rw [e6, q5]; exact (eObj_0 he).1
    have h1S := hw2.1.2.1.1
    have h24S := hw2.1.2.1.2
    refine sm_wI (I1 := fun σ'' => σ'' = σ') ?_ (fun _ e => by rw [e]; exact hi')
    exact sm_sum_120 hm hF (by rw [e6]; exact hr1.2.2.1) hw2 q6 (oS (cb (gA σ' 6) o n) - 1) 1 F _ (by omega) (by omega)
  · exfalso
    rw [hr1.1] at hc
    exact hc (Int32.not_le.mp c2)
end MLS
