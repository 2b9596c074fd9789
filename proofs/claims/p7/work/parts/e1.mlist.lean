/-! the reference's list, whole: safe (steps spelled out by sf/pp.py) -/
section MLJ
variable {F m : Nat} {h : px_H} {σ0 σ : px_S} {fs : px_FS}
/-- OUT was written -/
def OWe (σ0 σ : px_S) : Prop := ∃ c, c ≤ 65536 ∧ OWi σ0 σ c
theorem sm_li_203 {k110 : Nat → Int32 → Int32 → px_H → Option (Int32 × px_H)} {o k c0 P Y : Nat} (hm : m ≤ h.length) (hF : 24 < F) (hY : Y ≤ 20) (hP : P + Y < 65536) (hl : ∀ σ c, OWi σ0 σ c → (∃ v, f_M_letterOf F m (nI o) (nI k) (mh m h σ) = some (v, mh m h σ)) ∧ f_M_nameAt F m (nI o) (nI k) (mh m h σ) = some (nI P, mh m h σ) ∧ f_M_nameEnd F m (nI o) (nI k) (mh m h σ) = some (nI (P + Y), mh m h σ)) (hc0 : c0 + 64 ≤ 65536) (hK : ∀ c σ, c ≤ c0 + 40 → OWi σ0 σ c → Sm m h (OWe σ0) Any (k110 m (nI o) (nI (k + 1)) (mh m h σ))) (hI : OWi σ0 σ c0) : Sm m h (OWe σ0) Any (f_M_list_203 F k110 m (nI o) (nI k) (mh m h σ)) := by
  unfold f_M_list_203
  rw [Mr3 hm, bs, Mg4 hm, bs, hI.2.1, nI_add]
  refine sm_w3 hm hI (by omega) (fun σ hi => ?_)
  obtain ⟨⟨v, ev⟩, _, _⟩ := hl σ _ hi
  rw [Mr3 hm, bs, Mg4 hm, bs, hi.2.1, e_o hm, bs, ev, xb_mk, nI_add]
  refine sm_w3 hm hi (by omega) (fun σ hi => ?_)
  rw [Mr3 hm, bs, Mg4 hm, bs, hi.2.1, nI_add]
  refine sm_w3 hm hi (by omega) (fun σ hi => ?_)
  rw [Mg4 hm, bs, hi.2.1, nI_add]
  refine sm_p4 hm hi (fun σ hi => ?_)
  obtain ⟨_, e2, _⟩ := hl σ _ hi
  rw [e_o hm, bs, e2, xb_mk]
  exact sm_li_273 (c0 := c0 + 19) (P := P) (Y := Y) hm hY hP (fun σ c hi => (hl σ c hi).2.2) (by omega) (fun c σ hc hi => hK c σ (by omega) hi) Y 0 F σ (Nat.zero_add _) (by omega) hi
theorem sm_li_165 {k110 : Nat → Int32 → Int32 → px_H → Option (Int32 × px_H)} {o k c0 W : Nat} (hm : m ≤ h.length) (hc0 : c0 + 64 ≤ 65536) (hwh : ∀ σ c, OWi σ0 σ c → f_M_where F m (nI o) (nI k) (mh m h σ) = some (nI W, mh m h σ)) (h203 : ∀ σ, OWi σ0 σ c0 → Sm m h (OWe σ0) Any (f_M_list_203 F k110 m (nI o) (nI k) (mh m h σ))) : ∀ (d j f : Nat) (σ : px_S), j + d = 16 → d < f → OWi σ0 σ c0 → Sm m h (OWe σ0) Any (f_M_list_165 F k110 f m (nI o) (nI k) (nI j) (mh m h σ)) := by
  intro d
  induction d with
  | zero =>
    intro j f σ hj hf hI
    obtain ⟨f, rfl⟩ : ∃ y, f = y + 1 := ⟨f - 1, by omega⟩
    unfold f_M_list_165
    rw [if_pos (nI_le (by omega) (by omega))]
    exact h203 σ hI
  | succ d ih =>
    intro j f σ hj hf hI
    obtain ⟨f, rfl⟩ : ∃ y, f = y + 1 := ⟨f - 1, by omega⟩
    unfold f_M_list_165
    rw [if_neg (nI_ge (by omega) (by omega)), e_o hm, bs, hwh σ _ hI, xb_mk]
    refine sm_i (fun _ => ?_) (fun _ => h203 σ hI)
    rw [Mr3 hm, bs, Mg4 hm, bs, hI.2.1, nI_add, nI_add]
    exact sm_w3 hm hI (by omega) (fun σ hi => ih _ _ _ (by omega) (by omega) hi)
theorem sm_li_110 {o M : Nat} (hm : m ≤ h.length) (hF : 24 < F) (hM : M ≤ 64) (hmany : ∀ σ c, OWi σ0 σ c → f_M_symbolMany F m (nI o) (mh m h σ) = some (nI M, mh m h σ)) (hsym : ∀ k, 1 ≤ k → k < M → ∃ B W V P Y, (nI B ≠ 0 → Y ≤ 20 ∧ P + Y < 65536) ∧ ∀ σ c, OWi σ0 σ c → f_M_bind F m (nI o) (nI k) (mh m h σ) = some (nI B, mh m h σ) ∧ f_M_where F m (nI o) (nI k) (mh m h σ) = some (nI W, mh m h σ) ∧ f_M_value F m (nI o) (nI k) (mh m h σ) = some (V, mh m h σ) ∧ (nI B ≠ 0 → (∃ v, f_M_letterOf F m (nI o) (nI k) (mh m h σ) = some (v, mh m h σ)) ∧ f_M_nameAt F m (nI o) (nI k) (mh m h σ) = some (nI P, mh m h σ) ∧ f_M_nameEnd F m (nI o) (nI k) (mh m h σ) = some (nI (P + Y), mh m h σ))) : ∀ (d k f c : Nat) (σ : px_S), k + d = 65 → 1 ≤ k → d < f → c + 40 ≤ 40 * k → OWi σ0 σ c → Sm m h (OWe σ0) Any (f_M_list_110 F f m (nI o) (nI k) (mh m h σ)) := by
  intro d
  induction d with
  | zero =>
    intro k f c σ hk hk1 hf hc hI
    obtain ⟨f, rfl⟩ : ∃ y, f = y + 1 := ⟨f - 1, by omega⟩
    unfold f_M_list_110 f_M_list_345
    rw [e_o hm, bs, hmany σ _ hI, xb_mk, if_pos (nI_le (by omega) (by omega)), Mg4 hm, bs]
    exact sm_r any ⟨c, by omega, hI⟩
  | succ d ih =>
    intro k f c σ hk hk1 hf hc hI
    obtain ⟨f, rfl⟩ : ∃ y, f = y + 1 := ⟨f - 1, by omega⟩
    unfold f_M_list_110 f_M_list_345 f_M_list_339 f_M_list_162
    rw [e_o hm, bs, hmany σ _ hI, xb_mk]
    by_cases hkM : M ≤ k
    · rw [if_pos (nI_le hkM (by omega)), Mg4 hm, bs]
      exact sm_r any ⟨c, by omega, hI⟩
    · rw [if_neg (nI_ge (by omega) (by omega))]
      obtain ⟨B, W, V, P, Y, hPY, hs⟩ := hsym k hk1 (by omega)
      obtain ⟨s1, s2, s3, s4⟩ := hs σ _ hI
      rw [e_o hm, bs, s1, xb_mk, nI_add]
      refine sm_i (fun _ => ih _ _ _ _ (by omega) (by omega) (by omega) (by omega) hI) (fun hB => ?_)
      obtain ⟨hY, hP⟩ := hPY hB
      have hl := fun σ c hi => (hs σ c hi).2.2.2 hB
      have h203 : ∀ σ, OWi σ0 σ c → Sm m h (OWe σ0) Any (f_M_list_203 F (f_M_list_110 F f) m (nI o) (nI k) (mh m h σ)) := fun σ hi => sm_li_203 hm hF hY hP hl (by omega) (fun c' σ hc' hi => ih _ _ _ _ (by omega) (by omega) (by omega) (by omega) hi) hi
      rw [e_o hm, bs, s2, xb_mk]
      refine sm_i (fun _ => sm_li_165 hm (by omega) (fun σ c hi => (hs σ c hi).2.1) h203 16 0 F σ rfl (by omega) hI) (fun _ => ?_)
      rw [Mg4 hm, bs, e_o hm, bs, s3, xb_mk, e_o hm, bs, hI.2.1]
      refine sm_x (sm_16_3 (F := F) (x := V) (p := c) hm (by omega) 16 0 F σ rfl (by omega) hI) (fun v σ hv hi => ?_)
      exact sm_li_165 hm (by omega) (fun σ c hi => (hs σ c hi).2.1) h203 16 0 F σ rfl (by omega) hi
theorem OWe_0 (ho : OUo σ0) (hf : FR [0] [] [] [] σ0 σ) : OWe σ0 σ := by
  obtain ⟨⟨n, hn, en⟩, hb⟩ := ho
  exact ⟨n, hn, FR_mono hf (by decide) (by decide) (by decide) (by decide), (FR0_I hf (by decide)).trans en, by rw [hf.2.2.1 3 (by decide)]; exact hb⟩
theorem sm_list {a1 a2 : Int32} (hm : m ≤ h.length) (hF : 65540 < F) (hr : RF σ0 fs) (ho : OUo σ0) (hf : FR [0] [] [] [] σ0 σ) : Sm m h (OWe σ0) Any (f_M_list F m a1 a2 (mh m h σ)) := by
  have hr1 := RF_0 hr hf
  have h8 := hr1.2.1
  have bad2 : ∀ σ, FR [0] [] [] [] σ0 σ → Sm m h (OWe σ0) Any (f_M_list_80 F m a1 a2 m (nI 1) (mh m h σ)) := fun σ hi => by
    refine sm_wI (I1 := FR [0] [] [] [] σ0) ?_ (fun σ hi => OWe_0 ho hi)
    unfold f_M_list_80
    repeat' (first | exact absurd (show nI 0 = 0 from rfl) (by assumption) | exact absurd (show nI 1 = 0 by assumption) (by decide) | ((with_reducible refine sm_i (fun hc => ?_) (fun hc => ?_))) | ((with_reducible refine sm_gI hm (by with_unfolding_all exact rfl) ?_)) | ((with_reducible refine sm_gJ hm (by with_unfolding_all exact rfl) ?_)) | ((with_reducible refine sm_gR hm (by with_unfolding_all exact rfl) ?_)) | ((with_reducible refine sm_o hm (fun l => ?_))) | ((with_reducible refine sm_r ?_ ?_); (first | exact any | assumption | first | exact ⟨false, rfl⟩ | exact ⟨true, rfl⟩ | assumption); assumption) | ((with_reducible refine sm_z ?_ ?_ ?_); (first | exact ⟨false, rfl⟩ | exact ⟨true, rfl⟩ | assumption); (first | exact any | exact ⟨false, rfl⟩ | exact ⟨true, rfl⟩ | assumption); assumption) | ((with_reducible refine sm_t0 hm (by assumption) (fun σ hi => ?_))) | ((with_reducible refine sm_tA hm (by assumption) (fun σ hi => ?_))) | ((with_reducible refine sm_tB hm (by assumption) (fun σ hi => ?_))) | ((with_reducible refine sm_tC hm (by assumption) (fun σ hi => ?_))))
  have bad : Sm m h (OWe σ0) Any (f_M_list_47 F m a1 a2 (nI 1) (mh m h σ)) := by
    unfold f_M_list_47 f_M_list_75
    exact sm_i (fun hc => absurd hc (by decide)) (fun _ => bad2 σ hf)
  unfold f_M_list f_M_list_37 f_M_list_38 f_M_list_42
  refine sm_i (fun _ => bad) (fun c1 => sm_gI hm rfl (sm_i (fun _ => bad) (fun c2 => sm_i (fun _ => bad) (fun c3 => ?_))))
  refine sm_gR hm (c := 5) rfl (sm_i (fun hc => absurd hc c1) (fun _ => sm_gI hm rfl (sm_i (fun hc => absurd hc c2) (fun _ => ?_))))
  rw [hr1.1] at c2
  obtain ⟨i, hi, rfl⟩ := ixG c1 c2 (Nat.le_refl _)
  obtain ⟨l, hl, el⟩ := RF_8 hr1 hi
  refine sm_aI hm (k := 8) (n := 8) rfl rfl ⟨i, by omega, rfl⟩ (fun j hj ej => ?_)
  obtain rfl : j = i := ((nI_eq (show i < 2 ^ 31 by omega) (show j < 2 ^ 31 by omega)).mp ej).symm
  refine sm_i (fun c4 => ?_) (fun _ => bad)
  rw [el] at c4
  obtain ⟨k, hk, rfl⟩ := ixL c3 c4 (Nat.le_refl l)
  obtain ⟨o, n, b, sk, hob⟩ := mem_ob hr1 hi ⟨l, el, hl, hk⟩
  obtain ⟨q1, q2, q3, q4, q5, q6, q7⟩ := RF_ob hr1 hob
  have hx : ∃ q, q < 64 ∧ nI (8 * j + k) = nI q := ⟨_, q1, rfl⟩
  have hqq : ∀ j', nI (8 * j + k) = nI j' → j' < 64 → j' = 8 * j + k := fun j' ej hj => ((nI_eq (show 8 * j + k < 2 ^ 31 by omega) (show j' < 2 ^ 31 by omega)).mp ej).symm
  unfold f_M_list_47 f_M_list_71 f_M_list_75
  rw [ix8]
  refine sm_i (fun _ => sm_gR hm (c := 9) rfl (sm_i (fun _ => ?_) (fun hc => absurd rfl hc))) (fun hc => absurd rfl hc)
  refine sm_aI hm (k := 12) (n := 64) rfl rfl hx (fun j2 hj2 ej2 => ?_)
  obtain rfl := hqq j2 ej2 hj2
  rw [q4]
  refine sm_i (fun hsk => ?_) (fun _ => bad2 σ hf)
  have hskf : sk = false := by
    cases sk with
    | false => rfl
    | true => exact absurd hsk (by decide)
  have he := q7 hskf
  unfold f_M_list_80
  rw [ix8]
  refine sm_o hm (fun _ => sm_t0 hm hf (fun σ' hi' => sm_i (fun _ => ?_) (fun hc => absurd rfl hc)))
  refine sm_gR hm (c := 6) rfl (sm_aI hm (k := 9) (n := 64) rfl rfl hx (fun j3 hj3 ej3 => ?_))
  obtain rfl := hqq j3 ej3 hj3
  have e6 : gA σ 6 = gA σ0 6 := hf.2.2.1 6 (by decide)
  rw [(hi'.2.2.1 9 (by decide)).trans (hf.2.2.1 9 (by decide)).symm, q2]
  have hO : OBl σ0 o n := ⟨hr.2.2.1, q6, by rw [← e6, q5]; exact he⟩
  have hI0 : OWi σ0 (sI σ' 4 (nI 0)) 0 := by
    obtain ⟨c, _, w⟩ := OWe_0 ho hi'
    exact OWi_p w
  rw [Mp4 hm, bs]
  have hw := (eObj_0 hO.2.2).1
  refine sm_li_110 (M := oM (cb (gA σ0 6) o n)) hm (by omega) (w2_M hw) (fun σ c hI => ?_) (fun k hk1 hk => ?_) 64 1 F 0 _ rfl (by omega) (by omega) (by omega) hI0
  · have e := OWi_6 hI
    have hb : mb (mh m h σ) m (gA σ0 6) := by rw [← e]; exact Mmb hm (by rw [e]; exact hO.1)
    exact q_symbolMany hb (by omega) (w1_rk hw.1 q6) hw.1.2.1.1 (fun hY => by have := (hw.2 hY).2.1; omega)
  · exact li_sym (F := F) (m := m) (h := h) hm (by omega) hO hk1 hk
end MLJ
