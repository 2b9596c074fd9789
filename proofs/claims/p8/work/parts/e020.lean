section
/-! the reference's sum and list: safe (steps spelled out by sf/pp.py) -/
section MLS
variable {F m : Nat} {h : px_H} {σ0 σ : px_S} {fs : px_FS}
/-- a member that is there: what the files say of it -/
theorem mem_ob (hr : RF σ fs) {i k : Nat} (hi : i < fs.length) (hk : ∃ l, gA σ 8 i = nI l ∧ l ≤ 8 ∧ k < l) : ∃ o n b sk, obAt fs (8 * i + k) = some (o, n, b, sk) := by
  obtain ⟨l', e', h8, hk'⟩ := hk
  obtain ⟨x, hx⟩ : ∃ x, fs[i]? = some x := ⟨_, List.getElem?_eq_getElem hi⟩
  obtain ⟨_, _, _, _, l, hl, _⟩ := hr.2.2.2 i x hx
  obtain ⟨w1, w2, _⟩ := RF_row hr hx hl
  have el : l.length = l' := (nI_eq (by omega) (by omega)).mp (w1.symm.trans e')
  have e := obAt_none hr hx hl (show k < 8 by omega)
  have hy : l[k]? = some l[k] := List.getElem?_eq_getElem (by omega)
  rw [hy] at e
  exact ⟨_, _, _, _, e⟩
theorem sm_sum_120 {g : Int32} {o n : Nat} (hm : m ≤ h.length) (hF : 24 < F) (hB : ∀ k, isB (gA σ 6 k)) (hw : w2 (cb (gA σ 6) o n) n) (hon : o + n ≤ 65536) : ∀ (d j f : Nat) (v : Int64), j + d = oS (cb (gA σ 6) o n) → d < f → Sm m h (fun σ' => σ' = σ) Any (f_M_sum_120 F f m g (nI o) v (nI j) (mh m h σ)) := by
  have hb := Mmb hm hB
  have hrk := w1_rk hw.1 hon
  have h24 := hrk.2.2
  intro d
  induction d with
  | zero =>
    intro j f v hj hf
    obtain ⟨f, rfl⟩ : ∃ y, f = y + 1 := ⟨f - 1, by omega⟩
    unfold f_M_sum_120 f_M_sum_177
    rw [e_o hm, bs, q_sections hb (by omega) hrk.1, xb_mk, if_pos (nI_le (by omega) (by omega))]
    exact sm_r any rfl
  | succ d ih =>
    intro j f v hj hf
    obtain ⟨f, rfl⟩ : ∃ y, f = y + 1 := ⟨f - 1, by omega⟩
    have hjS : j < oS (cb (gA σ 6) o n) := by omega
    unfold f_M_sum_120 f_M_sum_177 f_M_sum_167 f_M_sum_168
    rw [e_o hm, bs, q_sections hb (by omega) hrk.1, xb_mk, if_neg (nI_ge (by omega) (by omega)), e_o hm, bs, q_isKept hb (by omega) hrk hjS, xb_mk, nI_add]
    refine sm_i (fun _ => ih _ _ _ (by omega) (by omega)) (fun _ => ?_)
    rw [e_o hm, bs, q_group hb (by omega) hrk hjS, xb_mk]
    refine sm_i (fun _ => ?_) (fun _ => ih _ _ _ (by omega) (by omega))
    rw [e_o hm, bs, q_size hb (by omega) hrk hjS, xb_mk]
    exact ih _ _ _ (by omega) (by omega)
theorem sm_sum {a1 a2 g : Int32} (hm : m ≤ h.length) (hF : 24 < F) (hr : RF σ0 fs) (hf : FR [0] [] [] [] σ0 σ) : Sm m h (FR [0] [] [] [] σ0) Any (f_M_sum F m a1 a2 g (mh m h σ)) := by
  have hr1 := RF_0 hr hf
  have h8 := hr1.2.1
  have bad2 : ∀ σ, FR [0] [] [] [] σ0 σ → Sm m h (FR [0] [] [] [] σ0) Any (f_M_sum_92 F m a1 a2 g m (nI 1) (mh m h σ)) := fun σ hi => by
    unfold f_M_sum_92
    repeat' (first | exact absurd (show nI 0 = 0 from rfl) (by assumption) | exact absurd (show nI 1 = 0 by assumption) (by decide) | ((with_reducible refine sm_i (fun hc => ?_) (fun hc => ?_))) | ((with_reducible refine sm_gI hm (by with_unfolding_all exact rfl) ?_)) | ((with_reducible refine sm_gJ hm (by with_unfolding_all exact rfl) ?_)) | ((with_reducible refine sm_gR hm (by with_unfolding_all exact rfl) ?_)) | ((with_reducible refine sm_o hm (fun l => ?_))) | ((with_reducible refine sm_r ?_ ?_); (first | exact any | assumption | first | exact ⟨false, rfl⟩ | exact ⟨true, rfl⟩ | assumption); assumption) | ((with_reducible refine sm_z ?_ ?_ ?_); (first | exact ⟨false, rfl⟩ | exact ⟨true, rfl⟩ | assumption); (first | exact any | exact ⟨false, rfl⟩ | exact ⟨true, rfl⟩ | assumption); assumption) | ((with_reducible refine sm_t0 hm (by assumption) (fun σ hi => ?_))) | ((with_reducible refine sm_tA hm (by assumption) (fun σ hi => ?_))) | ((with_reducible refine sm_tB hm (by assumption) (fun σ hi => ?_))) | ((with_reducible refine sm_tC hm (by assumption) (fun σ hi => ?_))))
  have bad : Sm m h (FR [0] [] [] [] σ0) Any (f_M_sum_47 F m a1 a2 g (nI 1) (mh m h σ)) := by
    unfold f_M_sum_47 f_M_sum_87
    exact sm_i (fun hc => absurd hc (by decide)) (fun _ => bad2 σ hf)
  unfold f_M_sum f_M_sum_33 f_M_sum_38 f_M_sum_42
  refine sm_i (fun _ => bad) (fun c1 => sm_gI hm rfl (sm_i (fun _ => bad) (fun c2 => sm_i (fun _ => bad) (fun c3 => ?_))))
  rw [hr1.1] at c2
  obtain ⟨i, hi, rfl⟩ := ixG c1 c2 (Nat.le_refl _)
  obtain ⟨l, hl, el⟩ := RF_8 hr1 hi
  refine sm_gR hm (c := 5) rfl (sm_i (fun hc => absurd hc c1) (fun _ => sm_gI hm rfl (sm_i (fun _ => ?_) (fun hc => ?_))))
  · refine sm_aI hm (k := 8) (n := 8) rfl rfl ⟨i, by omega, rfl⟩ (fun j hj ej => ?_)
    obtain rfl : j = i := ((nI_eq (show i < 2 ^ 31 by omega) (show j < 2 ^ 31 by omega)).mp ej).symm
    refine sm_i (fun c4 => ?_) (fun _ => bad)
    rw [el] at c4
    obtain ⟨k, hk, rfl⟩ := ixL c3 c4 (Nat.le_refl l)
    obtain ⟨o, n, b, sk, hob⟩ := mem_ob hr1 hi ⟨l, el, hl, hk⟩
    obtain ⟨q1, q2, q3, q4, q5, q6, q7⟩ := RF_ob hr1 hob
    have hx : ∃ q, q < 64 ∧ nI (8 * j + k) = nI q := ⟨_, q1, rfl⟩
    have hqq : ∀ j', nI (8 * j + k) = nI j' → j' < 64 → j' = 8 * j + k := fun j' ej hj => ((nI_eq (show 8 * j + k < 2 ^ 31 by omega) (show j' < 2 ^ 31 by omega)).mp ej).symm
    unfold f_M_sum_47 f_M_sum_74 f_M_sum_87
    rw [ix8]
    refine sm_i (fun _ => sm_gR hm (c := 9) rfl (sm_i (fun _ => ?_) (fun hc => absurd rfl hc))) (fun hc => absurd rfl hc)
    refine sm_aI hm (k := 12) (n := 64) rfl rfl hx (fun j2 hj2 ej2 => ?_)
    obtain rfl := hqq j2 ej2 hj2
    rw [q4]
    refine sm_i (fun hsk => sm_i (fun _ => bad2 σ hf) (fun _ => sm_i (fun _ => ?_) (fun _ => bad2 σ hf))) (fun _ => bad2 σ hf)
    have hskf : sk = false := by
      cases sk with
      | false => rfl
      | true => exact absurd hsk (by decide)
    have he := q7 hskf
    unfold f_M_sum_92
    rw [ix8]
    refine sm_o hm (fun _ => sm_t0 hm hf (fun σ' hi' => sm_i (fun _ => ?_) (fun hc => absurd rfl hc)))
    refine sm_gR hm (c := 6) rfl (sm_aI hm (k := 9) (n := 64) rfl rfl hx (fun j3 hj3 ej3 => ?_))
    obtain rfl := hqq j3 ej3 hj3
    have e6 : gA σ' 6 = gA σ 6 := (hi'.2.2.1 6 (by decide)).trans (hf.2.2.1 6 (by decide)).symm
    rw [(hi'.2.2.1 9 (by decide)).trans (hf.2.2.1 9 (by decide)).symm, q2]
    have hw2 : w2 (cb (gA σ' 6) o n) n := by rw [e6, q5]; exact (eObj_0 he).1
    have h1S := hw2.1.2.1.1
    have h24S := hw2.1.2.1.2
    refine sm_wI (I1 := fun σ'' => σ'' = σ') ?_ (fun _ e => by rw [e]; exact hi')
    exact sm_sum_120 hm hF (by rw [e6]; exact hr1.2.2.1) hw2 q6 (oS (cb (gA σ' 6) o n) - 1) 1 F _ (by omega) (by omega)
  · exfalso
    rw [hr1.1] at hc
    exact hc (Int32.not_le.mp c2)
end MLS
end
section
/-! the reference's list: safe (steps spelled out by sf/pp.py) -/
/-- OUT is being written: c bytes stand there -/
def OWi (σ0 σ : px_S) (c : Nat) : Prop := FR [0, 4] [] [3] [] σ0 σ ∧ gI σ 4 = nI c ∧ ∀ k, isB (gA σ 3 k)
section MLI
variable {F m : Nat} {h : px_H} {σ0 σ : px_S} {fs : px_FS} {c : Nat}
theorem OWi_w {j : Nat} {v : Int32} (hI : OWi σ0 σ c) : OWi σ0 (sA σ 3 (upd (gA σ 3) j v.toInt8.toInt32)) c := by
  obtain ⟨h1, h2, h3⟩ := hI
  refine ⟨FR_trans h1 (FR_mono (FR_A _ _ _) (by decide) (by decide) (by decide) (by decide)), h2, fun k => ?_⟩
  rw [gA_sA, if_pos rfl]
  exact upd_B h3 (isB_8 _) k
theorem OWi_p {c' : Nat} (hI : OWi σ0 σ c) : OWi σ0 (sI σ 4 (nI c')) c' := by
  obtain ⟨h1, h2, h3⟩ := hI
  exact ⟨FR_trans h1 (FR_mono (FR_I _ _ _) (by decide) (by decide) (by decide) (by decide)), by rw [gI_sI, if_pos rfl], h3⟩
theorem OWi_6 (hI : OWi σ0 σ c) : gA σ 6 = gA σ0 6 := hI.1.2.2.1 6 (by decide)
/-- one byte of OUT -/
theorem sm_w3 {I : px_S → Prop} {α : Type} {V : α → Prop} {f : px_H → Option (α × px_H)} {p : Nat} {v : Int32} (hm : m ≤ h.length) (hI : OWi σ0 σ c) (hp : p < 65536) (g : ∀ σ, OWi σ0 σ c → Sm m h I V (f (mh m h σ))) : Sm m h I V ((xsI (mh m h σ) 0 (m + 2) (nI p) v.toInt8.toInt32).bind f) := by
  rw [Ms3 hm hp, bs]; exact g _ (OWi_w hI)
theorem sm_p4 {I : px_S → Prop} {α : Type} {V : α → Prop} {f : px_H → Option (α × px_H)} {c' : Nat} (hm : m ≤ h.length) (hI : OWi σ0 σ c) (g : ∀ σ, OWi σ0 σ c' → Sm m h I V (f (mh m h σ))) : Sm m h I V ((xpI (mh m h σ) 12 4 m (nI c')).bind f) := by
  rw [Mp4 hm, bs]; exact g _ (OWi_p hI)
theorem sm_16_3 {x : Int64} {p : Nat} (hm : m ≤ h.length) (hp : p + 16 ≤ 65536) : ∀ (d j f : Nat) (σ : px_S), j + d = 16 → d < f → OWi σ0 σ c → Sm m h (fun σ' => OWi σ0 σ' c) Any (f_M_sixteen_3 F f m (nI p) x (nI j) (mh m h σ)) := by
  intro d
  induction d with
  | zero =>
    intro j f σ hj hf hI
    obtain ⟨f, rfl⟩ : ∃ y, f = y + 1 := ⟨f - 1, by omega⟩
    unfold f_M_sixteen_3 f_M_sixteen_65
    rw [if_pos (nI_le (by omega) (by omega))]
    exact sm_r any hI
  | succ d ih =>
    intro j f σ hj hf hI
    obtain ⟨f, rfl⟩ : ∃ y, f = y + 1 := ⟨f - 1, by omega⟩
    unfold f_M_sixteen_3 f_M_sixteen_57
    rw [if_neg (nI_ge (by omega) (by omega)), nI_add, nI_add]
    refine sm_gR hm (c := 2) rfl (sm_i (fun _ => ?_) (fun _ => ?_))
    · exact sm_w3 hm hI (by omega) (fun σ hi => ih _ _ _ (by omega) (by omega) hi)
    · exact sm_w3 hm hI (by omega) (fun σ hi => ih _ _ _ (by omega) (by omega) hi)
theorem so_letter {o n k : Nat} (hm : m ≤ h.length) (hF : 24 < F) (hB : ∀ k, isB (gA σ 6 k)) (hw : w2 (cb (gA σ 6) o n) n) (hon : o + n ≤ 65536) (hk : k < oM (cb (gA σ 6) o n)) (hy : yOK (cb (gA σ 6) o n) k = true) : ∃ v, f_M_letterOf F m (nI o) (nI k) (mh m h σ) = some (v, mh m h σ) := by
  have hb := Mmb hm hB
  have hrk := w1_rk hw.1 hon
  have h1 := hw.1.2.1.1
  have hW := yOK_W hy
  have h24 := hw.1.2.1.2
  have key : ∀ s0 : Int32, ∃ v, f_M_letterOf_22 F m (nI o) (nI (yW (cb (gA σ 6) o n) k)) s0 (mh m h σ) = some (v, mh m h σ) := fun s0 => by
    unfold f_M_letterOf_22 f_M_letterOf_40 f_M_letterOf_110 f_M_letterOf_117
    by_cases c1 : nI (yW (cb (gA σ 6) o n) k) = 0
    · rw [if_pos c1]
      split
      · exact ⟨_, rfl⟩
      · exact ⟨_, rfl⟩
    · rw [if_neg c1]
      by_cases c2 : nI (yW (cb (gA σ 6) o n) k) = (65522 : Int32)
      · rw [if_pos c2]; exact ⟨_, rfl⟩
      · rw [if_neg c2]
        by_cases c3 : s0 = 0
        · rw [if_pos c3]
          by_cases c4 : nI (yW (cb (gA σ 6) o n) k) = (65521 : Int32)
          · rw [if_pos c4]; exact ⟨_, rfl⟩
          · have hlt : yW (cb (gA σ 6) o n) k < oS (cb (gA σ 6) o n) := by
              rcases hW with w | w | w | w
              · exact absurd (by rw [w]; rfl) c1
              · exact absurd (by rw [w]; rfl) c4
              · exact absurd (by rw [w]; rfl) c2
              · exact w
            rw [if_neg c4, e_o hm, bs, q_group hb (by omega) hrk hlt, xb_mk]
            split
            · exact ⟨_, rfl⟩
            · split
              · exact ⟨_, rfl⟩
              · split
                · exact ⟨_, rfl⟩
                · split
                  · exact ⟨_, rfl⟩
                  · exact ⟨_, rfl⟩
        · rw [if_neg c3]; exact ⟨_, rfl⟩
  unfold f_M_letterOf
  rw [e_o hm, bs, q_where hb hF hrk h1 (w2_y hw hk), xb_mk, e_o hm, bs, q_bind hb hF hrk h1 (w2_y hw hk), xb_mk]
  split
  · exact key _
  · exact key _
/-- an object that is listed -/
def OBl (σ0 : px_S) (o n : Nat) : Prop := (∀ k, isB (gA σ0 6 k)) ∧ o + n ≤ 65536 ∧ eObj (cb (gA σ0 6) o n) n = 0
theorem sm_li_273 {k110 : Nat → Int32 → Int32 → px_H → Option (Int32 × px_H)} {o k P c0 Y : Nat} (hm : m ≤ h.length) (hY : Y ≤ 20) (hP : P + Y < 65536) (hq : ∀ σ c, OWi σ0 σ c → f_M_nameEnd F m (nI o) (nI k) (mh m h σ) = some (nI (P + Y), mh m h σ)) (hc0 : c0 + 40 ≤ 65536) (hK : ∀ c σ, c ≤ c0 + 21 → OWi σ0 σ c → Sm m h (fun σ' => ∃ c, c ≤ 65536 ∧ OWi σ0 σ' c) Any (k110 m (nI o) (nI (k + 1)) (mh m h σ))) : ∀ (d t f : Nat) (σ : px_S), t + d = Y → d < f → OWi σ0 σ (c0 + t) → Sm m h (fun σ' => ∃ c, c ≤ 65536 ∧ OWi σ0 σ' c) Any (f_M_list_273 F k110 f m (nI o) (nI k) (nI (P + t)) (mh m h σ)) := by
  intro d
  induction d with
  | zero =>
    intro t f σ hj hf hI
    obtain ⟨f, rfl⟩ : ∃ y, f = y + 1 := ⟨f - 1, by omega⟩
    unfold f_M_list_273 f_M_list_318 f_M_list_339
    rw [e_o hm, bs, hq σ _ hI, xb_mk, if_pos (nI_le (by omega) (by omega)), Mr3 hm, bs, Mg4 hm, bs, hI.2.1, nI_add]
    refine sm_w3 hm hI (by omega) (fun σ hi => ?_)
    rw [Mg4 hm, bs, hi.2.1, nI_add]
    exact sm_p4 hm hi (fun σ hi => hK _ _ (by omega) hi)
  | succ d ih =>
    intro t f σ hj hf hI
    obtain ⟨f, rfl⟩ : ∃ y, f = y + 1 := ⟨f - 1, by omega⟩
    unfold f_M_list_273
    rw [e_o hm, bs, hq σ _ hI, xb_mk, if_neg (nI_ge (by omega) (by omega)), Mr3 hm, bs, Mg4 hm, bs, hI.2.1, Mr6 hm, bs, Ma6 hm (by omega), bs, nI_add, Nat.add_assoc P t 1]
    refine sm_w3 hm hI (by omega) (fun σ hi => ?_)
    rw [Mg4 hm, bs, hi.2.1, nI_add, Nat.add_assoc c0 t 1]
    exact sm_p4 hm hi (fun σ hi => ih (t + 1) f σ (by omega) (by omega) hi)
/-- what is read of a symbol that is listed, at any state of the writing -/
theorem li_sym {o n k : Nat} (hm : m ≤ h.length) (hF : 24 < F) (hO : OBl σ0 o n) (hk1 : 1 ≤ k) (hk : k < oM (cb (gA σ0 6) o n)) : ∃ B W V P Y, (nI B ≠ 0 → Y ≤ 20 ∧ P + Y < 65536) ∧ ∀ σ c, OWi σ0 σ c → f_M_bind F m (nI o) (nI k) (mh m h σ) = some (nI B, mh m h σ) ∧ f_M_where F m (nI o) (nI k) (mh m h σ) = some (nI W, mh m h σ) ∧ f_M_value F m (nI o) (nI k) (mh m h σ) = some (V, mh m h σ) ∧ (nI B ≠ 0 → (∃ v, f_M_letterOf F m (nI o) (nI k) (mh m h σ) = some (v, mh m h σ)) ∧ f_M_nameAt F m (nI o) (nI k) (mh m h σ) = some (nI P, mh m h σ) ∧ f_M_nameEnd F m (nI o) (nI k) (mh m h σ) = some (nI (P + Y), mh m h σ)) := by
  obtain ⟨hB, hon, he⟩ := id hO
  obtain ⟨hw, hyo, _⟩ := eObj_0 he
  have hX : oP (cb (gA σ0 6) o n) (oX (cb (gA σ0 6) o n)) + oZ (cb (gA σ0 6) o n) (oX (cb (gA σ0 6) o n)) ≤ n := by
    have hY : oY (cb (gA σ0 6) o n) ≠ 0 := fun e => by unfold oM at hk; rw [if_pos e] at hk; exact absurd hk (Nat.not_lt_zero k)
    obtain ⟨_, _, x1, x2⟩ := hw.2 hY
    exact hw.1.2.2.2.1 _ x1 (by rw [x2]; decide) (by rw [x2]; decide)
  have hG : nI (yB (cb (gA σ0 6) o n) k) ≠ 0 → yG (cb (gA σ0 6) o n) k = true := fun hBn => (yOK_n (hyo k hk1 hk) (fun e => hBn (by rw [e]; rfl))).2.1
  refine ⟨yB (cb (gA σ0 6) o n) k, yW (cb (gA σ0 6) o n) k, lN (yV (cb (gA σ0 6) o n) k), o + (oP (cb (gA σ0 6) o n) (oX (cb (gA σ0 6) o n)) + yN (cb (gA σ0 6) o n) k), yL (cb (gA σ0 6) o n) k, fun hBn => ?_, fun σ c hI => ?_⟩
  · obtain ⟨g1, g2, g3⟩ := yG_n (hG hBn)
    refine ⟨g2, ?_⟩
    generalize oP (cb (gA σ0 6) o n) (oX (cb (gA σ0 6) o n)) = p1 at *
    generalize oZ (cb (gA σ0 6) o n) (oX (cb (gA σ0 6) o n)) = p2 at *
    generalize yN (cb (gA σ0 6) o n) k = p3 at *
    generalize yL (cb (gA σ0 6) o n) k = p4 at *
    omega
  · have e6 := OWi_6 hI
    have hb : mb (mh m h σ) m (gA σ0 6) := by rw [← e6]; exact Mmb hm (by rw [e6]; exact hB)
    have hrk := w1_rk hw.1 hon
    have h1 := hw.1.2.1.1
    have hyp := w2_y hw hk
    refine ⟨q_bind hb hF hrk h1 hyp, q_where hb hF hrk h1 hyp, q_value hb hF hrk h1 hyp, fun hBn => ⟨so_letter hm hF (by rw [e6]; exact hB) (by rw [e6]; exact hw) hon (by rw [e6]; exact hk) (by rw [e6]; exact hyo k hk1 hk), q_nameAt hb hF hw hon hk, ?_⟩⟩
    have q := q_nameEnd (F := F) (σ := σ) (o := o) (n := n) (k := k) hm (by rw [e6]; exact hB) hF (by rw [e6]; exact hw) hon (by rw [e6]; exact hk) (by rw [e6]; exact hG hBn)
    rw [e6] at q
    exact q
end MLI
end
section
/-! the reference's list, whole: safe (steps spelled out by sf/pp.py) -/
section MLJ
variable {F m : Nat} {h : px_H} {σ0 σ : px_S} {fs : px_FS}
/-- OUT was written -/
def OWe (σ0 σ : px_S) : Prop := ∃ c, c ≤ 65536 ∧ OWi σ0 σ c
theorem sm_li_203 {k110 : Nat → Int32 → Int32 → px_H → Option (Int32 × px_H)} {o k c0 P Y : Nat} (hm : m ≤ h.length) (hF : 24 < F) (hY : Y ≤ 20) (hP : P + Y < 65536) (hl : ∀ σ c, OWi σ0 σ c → (∃ v, f_M_letterOf F m (nI o) (nI k) (mh m h σ) = some (v, mh m h σ)) ∧ f_M_nameAt F m (nI o) (nI k) (mh m h σ) = some (nI P, mh m h σ) ∧ f_M_nameEnd F m (nI o) (nI k) (mh m h σ) = some (nI (P + Y), mh m h σ)) (hc0 : c0 + 64 ≤ 65536) (hK : ∀ c σ, c ≤ c0 + 40 → OWi σ0 σ c → Sm m h (OWe σ0) Any (k110 m (nI o) (nI (k + 1)) (mh m h σ))) (hI : OWi σ0 σ c0) : Sm m h (OWe σ0) Any (f_M_list_203 F k110 m (nI o) (nI k) (mh m h σ)) := by
  unfold f_M_list_203
  rw [Mr3 hm, bs, Mg4 hm, bs, hI.2.1, nI_add]
  refine sm_w3 hm hI (by omega) (fun σ hi => ?_)
  obtain ⟨⟨v, ev⟩, _, _⟩ := hl σ _ hi
  rw [Mr3 hm, bs, Mg4 hm, bs, hi.2.1, e_o hm, bs, ev, xb_mk, nI_add]
  refine sm_w3 hm hi (by omega) (fun σ hi => ?_)
  rw [Mr3 hm, bs, Mg4 hm, bs, hi.2.1, nI_add]
  refine sm_w3 hm hi (by omega) (fun σ hi => ?_)
  rw [Mg4 hm, bs, hi.2.1, nI_add]
  refine sm_p4 hm hi (fun σ hi => ?_)
  obtain ⟨_, e2, _⟩ := hl σ _ hi
  rw [e_o hm, bs, e2, xb_mk]
  exact sm_li_273 (c0 := c0 + 19) (P := P) (Y := Y) hm hY hP (fun σ c hi => (hl σ c hi).2.2) (by omega) (fun c σ hc hi => hK c σ (by omega) hi) Y 0 F σ (Nat.zero_add _) (by omega) hi
theorem sm_li_165 {k110 : Nat → Int32 → Int32 → px_H → Option (Int32 × px_H)} {o k c0 W : Nat} (hm : m ≤ h.length) (hc0 : c0 + 64 ≤ 65536) (hwh : ∀ σ c, OWi σ0 σ c → f_M_where F m (nI o) (nI k) (mh m h σ) = some (nI W, mh m h σ)) (h203 : ∀ σ, OWi σ0 σ c0 → Sm m h (OWe σ0) Any (f_M_list_203 F k110 m (nI o) (nI k) (mh m h σ))) : ∀ (d j f : Nat) (σ : px_S), j + d = 16 → d < f → OWi σ0 σ c0 → Sm m h (OWe σ0) Any (f_M_list_165 F k110 f m (nI o) (nI k) (nI j) (mh m h σ)) := by
  intro d
  induction d with
  | zero =>
    intro j f σ hj hf hI
    obtain ⟨f, rfl⟩ : ∃ y, f = y + 1 := ⟨f - 1, by omega⟩
    unfold f_M_list_165
    rw [if_pos (nI_le (by omega) (by omega))]
    exact h203 σ hI
  | succ d ih =>
    intro j f σ hj hf hI
    obtain ⟨f, rfl⟩ : ∃ y, f = y + 1 := ⟨f - 1, by omega⟩
    unfold f_M_list_165
    rw [if_neg (nI_ge (by omega) (by omega)), e_o hm, bs, hwh σ _ hI, xb_mk]
    refine sm_i (fun _ => ?_) (fun _ => h203 σ hI)
    rw [Mr3 hm, bs, Mg4 hm, bs, hI.2.1, nI_add, nI_add]
    exact sm_w3 hm hI (by omega) (fun σ hi => ih _ _ _ (by omega) (by omega) hi)
theorem sm_li_110 {o M : Nat} (hm : m ≤ h.length) (hF : 24 < F) (hM : M ≤ 64) (hmany : ∀ σ c, OWi σ0 σ c → f_M_symbolMany F m (nI o) (mh m h σ) = some (nI M, mh m h σ)) (hsym : ∀ k, 1 ≤ k → k < M → ∃ B W V P Y, (nI B ≠ 0 → Y ≤ 20 ∧ P + Y < 65536) ∧ ∀ σ c, OWi σ0 σ c → f_M_bind F m (nI o) (nI k) (mh m h σ) = some (nI B, mh m h σ) ∧ f_M_where F m (nI o) (nI k) (mh m h σ) = some (nI W, mh m h σ) ∧ f_M_value F m (nI o) (nI k) (mh m h σ) = some (V, mh m h σ) ∧ (nI B ≠ 0 → (∃ v, f_M_letterOf F m (nI o) (nI k) (mh m h σ) = some (v, mh m h σ)) ∧ f_M_nameAt F m (nI o) (nI k) (mh m h σ) = some (nI P, mh m h σ) ∧ f_M_nameEnd F m (nI o) (nI k) (mh m h σ) = some (nI (P + Y), mh m h σ))) : ∀ (d k f c : Nat) (σ : px_S), k + d = 65 → 1 ≤ k → d < f → c + 40 ≤ 40 * k → OWi σ0 σ c → Sm m h (OWe σ0) Any (f_M_list_110 F f m (nI o) (nI k) (mh m h σ)) := by
  intro d
  induction d with
  | zero =>
    intro k f c σ hk hk1 hf hc hI
    obtain ⟨f, rfl⟩ : ∃ y, f = y + 1 := ⟨f - 1, by omega⟩
    unfold f_M_list_110 f_M_list_345
    rw [e_o hm, bs, hmany σ _ hI, xb_mk, if_pos (nI_le (by omega) (by omega)), Mg4 hm, bs]
    exact sm_r any ⟨c, by omega, hI⟩
  | succ d ih =>
    intro k f c σ hk hk1 hf hc hI
    obtain ⟨f, rfl⟩ : ∃ y, f = y + 1 := ⟨f - 1, by omega⟩
    unfold f_M_list_110 f_M_list_345 f_M_list_339 f_M_list_162
    rw [e_o hm, bs, hmany σ _ hI, xb_mk]
    by_cases hkM : M ≤ k
    · rw [if_pos (nI_le hkM (by omega)), Mg4 hm, bs]
      exact sm_r any ⟨c, by omega, hI⟩
    · rw [if_neg (nI_ge (by omega) (by omega))]
      obtain ⟨B, W, V, P, Y, hPY, hs⟩ := hsym k hk1 (by omega)
      obtain ⟨s1, s2, s3, s4⟩ := hs σ _ hI
      rw [e_o hm, bs, s1, xb_mk, nI_add]
      refine sm_i (fun _ => ih _ _ _ _ (by omega) (by omega) (by omega) (by omega) hI) (fun hB => ?_)
      obtain ⟨hY, hP⟩ := hPY hB
      have hl := fun σ c hi => (hs σ c hi).2.2.2 hB
      have h203 : ∀ σ, OWi σ0 σ c → Sm m h (OWe σ0) Any (f_M_list_203 F (f_M_list_110 F f) m (nI o) (nI k) (mh m h σ)) := fun σ hi => sm_li_203 hm hF hY hP hl (by omega) (fun c' σ hc' hi => ih _ _ _ _ (by omega) (by omega) (by omega) (by omega) hi) hi
      rw [e_o hm, bs, s2, xb_mk]
      refine sm_i (fun _ => sm_li_165 hm (by omega) (fun σ c hi => (hs σ c hi).2.1) h203 16 0 F σ rfl (by omega) hI) (fun _ => ?_)
      rw [Mg4 hm, bs, e_o hm, bs, s3, xb_mk, e_o hm, bs, hI.2.1]
      refine sm_x (sm_16_3 (F := F) (x := V) (p := c) hm (by omega) 16 0 F σ rfl (by omega) hI) (fun v σ hv hi => ?_)
      exact sm_li_165 hm (by omega) (fun σ c hi => (hs σ c hi).2.1) h203 16 0 F σ rfl (by omega) hi
theorem OWe_0 (ho : OUo σ0) (hf : FR [0] [] [] [] σ0 σ) : OWe σ0 σ := by
  obtain ⟨⟨n, hn, en⟩, hb⟩ := ho
  exact ⟨n, hn, FR_mono hf (by decide) (by decide) (by decide) (by decide), (FR0_I hf (by decide)).trans en, by rw [hf.2.2.1 3 (by decide)]; exact hb⟩
theorem sm_list {a1 a2 : Int32} (hm : m ≤ h.length) (hF : 65540 < F) (hr : RF σ0 fs) (ho : OUo σ0) (hf : FR [0] [] [] [] σ0 σ) : Sm m h (OWe σ0) Any (f_M_list F m a1 a2 (mh m h σ)) := by
  have hr1 := RF_0 hr hf
  have h8 := hr1.2.1
  have bad2 : ∀ σ, FR [0] [] [] [] σ0 σ → Sm m h (OWe σ0) Any (f_M_list_80 F m a1 a2 m (nI 1) (mh m h σ)) := fun σ hi => by
    refine sm_wI (I1 := FR [0] [] [] [] σ0) ?_ (fun σ hi => OWe_0 ho hi)
    unfold f_M_list_80
    repeat' (first | exact absurd (show nI 0 = 0 from rfl) (by assumption) | exact absurd (show nI 1 = 0 by assumption) (by decide) | ((with_reducible refine sm_i (fun hc => ?_) (fun hc => ?_))) | ((with_reducible refine sm_gI hm (by with_unfolding_all exact rfl) ?_)) | ((with_reducible refine sm_gJ hm (by with_unfolding_all exact rfl) ?_)) | ((with_reducible refine sm_gR hm (by with_unfolding_all exact rfl) ?_)) | ((with_reducible refine sm_o hm (fun l => ?_))) | ((with_reducible refine sm_r ?_ ?_); (first | exact any | assumption | first | exact ⟨false, rfl⟩ | exact ⟨true, rfl⟩ | assumption); assumption) | ((with_reducible refine sm_z ?_ ?_ ?_); (first | exact ⟨false, rfl⟩ | exact ⟨true, rfl⟩ | assumption); (first | exact any | exact ⟨false, rfl⟩ | exact ⟨true, rfl⟩ | assumption); assumption) | ((with_reducible refine sm_t0 hm (by assumption) (fun σ hi => ?_))) | ((with_reducible refine sm_tA hm (by assumption) (fun σ hi => ?_))) | ((with_reducible refine sm_tB hm (by assumption) (fun σ hi => ?_))) | ((with_reducible refine sm_tC hm (by assumption) (fun σ hi => ?_))))
  have bad : Sm m h (OWe σ0) Any (f_M_list_47 F m a1 a2 (nI 1) (mh m h σ)) := by
    unfold f_M_list_47 f_M_list_75
    exact sm_i (fun hc => absurd hc (by decide)) (fun _ => bad2 σ hf)
  unfold f_M_list f_M_list_37 f_M_list_38 f_M_list_42
  refine sm_i (fun _ => bad) (fun c1 => sm_gI hm rfl (sm_i (fun _ => bad) (fun c2 => sm_i (fun _ => bad) (fun c3 => ?_))))
  refine sm_gR hm (c := 5) rfl (sm_i (fun hc => absurd hc c1) (fun _ => sm_gI hm rfl (sm_i (fun hc => absurd hc c2) (fun _ => ?_))))
  rw [hr1.1] at c2
  obtain ⟨i, hi, rfl⟩ := ixG c1 c2 (Nat.le_refl _)
  obtain ⟨l, hl, el⟩ := RF_8 hr1 hi
  refine sm_aI hm (k := 8) (n := 8) rfl rfl ⟨i, by omega, rfl⟩ (fun j hj ej => ?_)
  obtain rfl : j = i := ((nI_eq (show i < 2 ^ 31 by omega) (show j < 2 ^ 31 by omega)).mp ej).symm
  refine sm_i (fun c4 => ?_) (fun _ => bad)
  rw [el] at c4
  obtain ⟨k, hk, rfl⟩ := ixL c3 c4 (Nat.le_refl l)
  obtain ⟨o, n, b, sk, hob⟩ := mem_ob hr1 hi ⟨l, el, hl, hk⟩
  obtain ⟨q1, q2, q3, q4, q5, q6, q7⟩ := RF_ob hr1 hob
  have hx : ∃ q, q < 64 ∧ nI (8 * j + k) = nI q := ⟨_, q1, rfl⟩
  have hqq : ∀ j', nI (8 * j + k) = nI j' → j' < 64 → j' = 8 * j + k := fun j' ej hj => ((nI_eq (show 8 * j + k < 2 ^ 31 by omega) (show j' < 2 ^ 31 by omega)).mp ej).symm
  unfold f_M_list_47 f_M_list_71 f_M_list_75
  rw [ix8]
  refine sm_i (fun _ => sm_gR hm (c := 9) rfl (sm_i (fun _ => ?_) (fun hc => absurd rfl hc))) (fun hc => absurd rfl hc)
  refine sm_aI hm (k := 12) (n := 64) rfl rfl hx (fun j2 hj2 ej2 => ?_)
  obtain rfl := hqq j2 ej2 hj2
  rw [q4]
  refine sm_i (fun hsk => ?_) (fun _ => bad2 σ hf)
  have hskf : sk = false := by
    cases sk with
    | false => rfl
    | true => exact absurd hsk (by decide)
  have he := q7 hskf
  unfold f_M_list_80
  rw [ix8]
  refine sm_o hm (fun _ => sm_t0 hm hf (fun σ' hi' => sm_i (fun _ => ?_) (fun hc => absurd rfl hc)))
  refine sm_gR hm (c := 6) rfl (sm_aI hm (k := 9) (n := 64) rfl rfl hx (fun j3 hj3 ej3 => ?_))
  obtain rfl := hqq j3 ej3 hj3
  have e6 : gA σ 6 = gA σ0 6 := hf.2.2.1 6 (by decide)
  rw [(hi'.2.2.1 9 (by decide)).trans (hf.2.2.1 9 (by decide)).symm, q2]
  have hO : OBl σ0 o n := ⟨hr.2.2.1, q6, by rw [← e6, q5]; exact he⟩
  have hI0 : OWi σ0 (sI σ' 4 (nI 0)) 0 := by
    obtain ⟨c, _, w⟩ := OWe_0 ho hi'
    exact OWi_p w
  rw [Mp4 hm, bs]
  have hw := (eObj_0 hO.2.2).1
  refine sm_li_110 (M := oM (cb (gA σ0 6) o n)) hm (by omega) (w2_M hw) (fun σ c hI => ?_) (fun k hk1 hk => ?_) 64 1 F 0 _ rfl (by omega) (by omega) (by omega) hI0
  · have e := OWi_6 hI
    have hb : mb (mh m h σ) m (gA σ0 6) := by rw [← e]; exact Mmb hm (by rw [e]; exact hO.1)
    exact q_symbolMany hb (by omega) (w1_rk hw.1 q6) hw.1.2.1.1 (fun hY => by have := (hw.2 hY).2.1; omega)
  · exact li_sym (F := F) (m := m) (h := h) hm (by omega) hO hk1 hk
end MLJ
end
section
/-! the reference's near: safe (steps spelled out by sf/pp.py) -/
/-- the memory's names -/
def MNa (σ : px_S) : Prop := ∃ c, c ≤ 2800 ∧ gI σ 44 = nI c ∧ ∀ i, i < c → ∃ p l, gA σ 45 i = nI p ∧ gA σ 46 i = nI l ∧ l ≤ 20 ∧ p + l ≤ 65536
section MNR
variable {F m : Nat} {h : px_H} {σ0 σ : px_S}
theorem OWe_w {j : Nat} {v : Int32} (hI : OWe σ0 σ) : OWe σ0 (sA σ 3 (upd (gA σ 3) j v.toInt8.toInt32)) := by
  obtain ⟨c, hc, w⟩ := hI
  exact ⟨c, hc, OWi_w w⟩
theorem sm_say100_3 {p l : Nat} (hm : m ≤ h.length) (hl : l ≤ 20) (hp : p + l ≤ 65536) : ∀ (d j f : Nat) (σ : px_S), j + d = l → d < f → OWe σ0 σ → Sm m h (OWe σ0) Any (f_M_say_3 F f m (m + 68) (nI p) (nI l) (nI j) (mh m h σ)) := by
  intro d
  induction d with
  | zero =>
    intro j f σ hj hf hI
    obtain ⟨f, rfl⟩ : ∃ y, f = y + 1 := ⟨f - 1, by omega⟩
    unfold f_M_say_3 f_M_say_28
    rw [if_pos (nI_le (by omega) (by omega)), Mp4 hm, bs]
    obtain ⟨c, hc, w⟩ := hI
    exact sm_r any ⟨l, by omega, OWi_p w⟩
  | succ d ih =>
    intro j f σ hj hf hI
    obtain ⟨f, rfl⟩ : ∃ y, f = y + 1 := ⟨f - 1, by omega⟩
    unfold f_M_say_3
    rw [if_neg (nI_ge (by omega) (by omega)), Mr3 hm, bs, nI_add, Ma100 hm (by omega), bs, Ms3 hm (by omega), bs, nI_add]
    exact ih _ _ _ (by omega) (by omega) (OWe_w hI)
theorem near_89 {x : Int64} {a3 : Int32} {c : Nat} (hm : m ≤ h.length) (hF : 65540 < F) (hv : MV σ) (h3 : a3 = Int32.ofInt (-1) ∨ ∃ i, i < c ∧ a3 = nI i) (hc : c ≤ 2800) (hn : ∀ i, i < c → ∃ p l, gA σ 45 i = nI p ∧ gA σ 46 i = nI l ∧ l ≤ 20 ∧ p + l ≤ 65536) (hI : OWe σ0 σ) : Sm m h (OWe σ0) Any (f_M_near_89 F m x a3 (mh m h σ)) := by
  obtain ⟨r, hr, er, _⟩ := hv
  unfold f_M_near_89 f_M_near_101
  refine sm_o hm (fun _ => sm_x (sm_row_2 hm hr er r 0 F (Nat.zero_add _) (by omega)) ?_)
  rintro v _ _ rfl
  refine sm_i (fun _ => sm_r any hI) (fun _ => sm_i (fun h0 => ?_) (fun _ => sm_r any hI))
  rcases h3 with rfl | ⟨i, hi, rfl⟩
  · exact absurd h0 (by decide)
  · obtain ⟨p, l, e1, e2, hl, hp⟩ := hn i hi
    rw [Mr100 hm, bs, Mr45 hm, bs, Ma45 hm (by omega), bs, e1, Mr46 hm, bs, Ma46 hm (by omega), bs, e2]
    refine sm_o hm (fun _ => sm_x (sm_say100_3 (F := F) hm hl hp l 0 F _ (Nat.zero_add _) (by omega) hI) (fun v σ hv hi' => ?_))
    rw [Mr47 hm, bs, Ma47 hm (by omega), bs]
    exact sm_r any hi'
theorem near_10 {x : Int64} {c : Nat} (hm : m ≤ h.length) (hF : 65540 < F) (hv : MV σ) (hc : c ≤ 2800) (ec : gI σ 44 = nI c) (hn : ∀ i, i < c → ∃ p l, gA σ 45 i = nI p ∧ gA σ 46 i = nI l ∧ l ≤ 20 ∧ p + l ≤ 65536) (hI : OWe σ0 σ) : ∀ (d j f : Nat) (a3 : Int32), j + d = c → d < f → (a3 = Int32.ofInt (-1) ∨ ∃ i, i < c ∧ a3 = nI i) → Sm m h (OWe σ0) Any (f_M_near_10 F f m x a3 (nI j) (mh m h σ)) := by
  intro d
  induction d with
  | zero =>
    intro j f a3 hj hf h3
    obtain ⟨f, rfl⟩ : ∃ y, f = y + 1 := ⟨f - 1, by omega⟩
    unfold f_M_near_10
    rw [Mg44 hm, bs, ec, if_pos (nI_le (by omega) (by omega))]
    exact near_89 hm hF hv h3 hc hn hI
  | succ d ih =>
    intro j f a3 hj hf h3
    obtain ⟨f, rfl⟩ : ∃ y, f = y + 1 := ⟨f - 1, by omega⟩
    have go1 := ih (j + 1) f a3 (by omega) (by omega) h3
    have go2 := ih (j + 1) f (nI j) (by omega) (by omega) (Or.inr ⟨j, by omega, rfl⟩)
    unfold f_M_near_10 f_M_near_47 f_M_near_48 f_M_near_76 f_M_near_81 f_M_near_82
    rw [Mg44 hm, bs, ec, if_neg (nI_ge (by omega) (by omega)), Mr47 hm, bs, Ma47 hm (by omega), bs, nI_add]
    refine sm_i (fun _ => sm_i (fun _ => go1) (fun hc => absurd rfl hc)) (fun _ => ?_)
    rw [bs, Ma47 hm (by omega), bs]
    refine sm_i (fun _ => sm_i (fun _ => go1) (fun hc => absurd rfl hc)) (fun _ => ?_)
    refine sm_i (fun hc => absurd hc (by decide)) (fun _ => sm_i (fun _ => go2) (fun h0 => ?_))
    rcases h3 with rfl | ⟨i, hi, rfl⟩
    · exact absurd (show (Int32.ofInt (-1)) < 0 by decide) h0
    · rw [bs, Ma47 hm (by omega), bs, bs, Ma47 hm (by omega), bs]
      exact sm_i (fun _ => go1) (fun _ => go2)
theorem sm_near {x : Int64} (hm : m ≤ h.length) (hF : 65540 < F) (hv : MV σ0) (hn : MNa σ0) (ho : OUo σ0) : Sm m h (OWe σ0) Any (f_M_near F m x (mh m h σ0)) := by
  obtain ⟨c, hc, ec, hn⟩ := hn
  unfold f_M_near
  rw [Mp0 hm, bs]
  have hf : FR [0] [] [] [] σ0 (sI σ0 0 (nI 0)) := FR_I _ _ _
  exact near_10 hm hF (MV_0 hv hf) hc ec hn (OWe_0 ho hf) c 0 F _ (Nat.zero_add _) (by omega) (Or.inl rfl)
end MNR
end
section
/-! the reference boots: what is tried (steps spelled out by sf/pp.py) -/
section MBO
variable {F m : Nat} {h : px_H} {σ0 σ : px_S}
theorem sm_sJW {I I1 : px_S → Prop} {α : Type} {V : α → Prop} {f : px_H → Option (α × px_H)} {c k t n j : Nat} {v : Int64} (hm : m ≤ h.length) (hr : mr k = (3, c, t, n)) (hj : j < n) (hI : I1 (sB σ k (vp_updL (gB σ k) j v))) (g : ∀ σ, I1 σ → Sm m h I V (f (mh m h σ))) : Sm m h I V ((xsJ (mh m h σ) t (m + c) (nI j) v).bind f) := by
  have e := e_sJ (σ := σ) (k := k) (i := j) hm (by rw [hr]) (by rw [hr]; exact hj) v
  rw [hr] at e
  rw [e, bs]; exact g _ hI
theorem t_num_7 {p : Nat} (hm : m ≤ h.length) : ∀ (d f w : Nat), d < f → p + d ≤ 65536 → (w + 1) * 256 ^ d ≤ 2 ^ 64 → ∃ x, x < (w + 1) * 256 ^ d ∧ f_M_triedNum_7 F f m (nI p) (lN w) (nI d - nI 1) (mh m h σ) = some (lN x, mh m h σ) := by
  intro d
  induction d with
  | zero =>
    intro f w hf _ _
    obtain ⟨f, rfl⟩ : ∃ x, f = x + 1 := ⟨f - 1, by omega⟩
    unfold f_M_triedNum_7 f_M_triedNum_38
    exact ⟨w, by omega, by rw [if_pos (by decide)]⟩
  | succ d ih =>
    intro f w hf hd hm2
    obtain ⟨f, rfl⟩ : ∃ x, f = x + 1 := ⟨f - 1, by omega⟩
    rw [Nat.pow_succ, Nat.mul_comm (256 ^ d) 256, ← Nat.mul_assoc] at hm2
    have h1 : 1 ≤ 256 ^ d := Nat.pos_of_ne_zero (by simp)
    have h2 : (w + 1) * 256 ≤ (w + 1) * 256 * 256 ^ d := Nat.le_mul_of_pos_right _ h1
    rw [pk_sub (by omega), Nat.add_sub_cancel]
    have hb := b8_lt (gA σ 99 (p + d))
    have h3 : (w * 256 + b8 (gA σ 99 (p + d)) + 1) * 256 ^ d ≤ (w + 1) * 256 * 256 ^ d := Nat.mul_le_mul_right _ (by omega)
    unfold f_M_triedNum_7
    rw [if_neg (nI_pos (by omega)), Mr99 hm, bs, nI_add, Ma99 hm (by omega), bs, nI_back, sh_byte w _ (by omega)]
    obtain ⟨x, hx, e⟩ := ih f (w * 256 + b8 (gA σ 99 (p + d))) (by omega) (by omega) (by omega)
    refine ⟨x, ?_, e⟩
    rw [Nat.pow_succ, Nat.mul_comm (256 ^ d) 256, ← Nat.mul_assoc]
    omega
theorem t_num {p k : Nat} (hm : m ≤ h.length) (hF : 8 < F) (hk : k ≤ 8) (hp : p + k ≤ 65536) : ∃ x, x < 256 ^ k ∧ f_M_triedNum F m (nI p) (nI k) (mh m h σ) = some (lN x, mh m h σ) := by
  have hp' : 256 ^ k ≤ 256 ^ 8 := Nat.pow_le_pow_right (by decide) hk
  obtain ⟨x, hx, e⟩ := t_num_7 (F := F) (σ := σ) (p := p) hm k F 0 (by omega) hp (by omega)
  exact ⟨x, by omega, e⟩
theorem sm_tn {I : px_S → Prop} {α : Type} {V : α → Prop} {f : Int64 → px_H → Option (α × px_H)} {p k : Nat} (hm : m ≤ h.length) (hF : 8 < F) (hk : k ≤ 8) (hp : p + k ≤ 65536) (g : ∀ x, x < 256 ^ k → Sm m h I V (f (lN x) (mh m h σ))) : Sm m h I V (xb (f_M_triedNum F m (nI p) (nI k) (mh m h σ)) f) := by
  obtain ⟨x, hx, e⟩ := t_num (F := F) (σ := σ) (p := p) (k := k) hm hF hk hp
  rw [e, xb_mk]; exact g x hx
theorem sm_isExe {s : Nat} (hm : m ≤ h.length) (hF : 8 < F) (es : gI σ 101 = nI s) (hs : s ≤ 65536) : Sm m h (fun σ' => σ' = σ) (fun v => v = nI 0 ∨ (v = nI 1 ∧ 64 ≤ s)) (f_M_isExecutable F m (mh m h σ)) := by
  have z0 : Sm m h (fun σ' => σ' = σ) (fun v => v = nI 0 ∨ (v = nI 1 ∧ 64 ≤ s)) (xz (nI 0) (mh m h σ)) := sm_z ⟨false, rfl⟩ (Or.inl rfl) rfl
  unfold f_M_isExecutable f_M_isExecutable_55 f_M_isExecutable_56 f_M_isExecutable_91 f_M_isExecutable_92
  refine sm_gI hm rfl (sm_i (fun _ => ?_) (fun hc => ?_))
  · exact sm_i (fun _ => z0) (fun hc => absurd rfl hc)
  · rw [es] at hc
    have h64 : 64 ≤ s := Nat.lt_of_not_le (fun w => hc (nI_le w (by omega)))
    have z1 : Sm m h (fun σ' => σ' = σ) (fun v => v = nI 0 ∨ (v = nI 1 ∧ 64 ≤ s)) (xz (nI 1) (mh m h σ)) := sm_z ⟨true, rfl⟩ (Or.inr ⟨rfl, h64⟩) rfl
    repeat' (first | (exact z0) | (exact z1) | ((with_reducible refine sm_tn hm hF ?_ ?_ (fun x hx => ?_)); decide; decide) | exact absurd (show nI 0 = 0 from rfl) (by assumption) | exact absurd (show nI 1 = 0 by assumption) (by decide) | ((with_reducible refine sm_i (fun hc => ?_) (fun hc => ?_))) | ((with_reducible refine sm_gI hm (by with_unfolding_all exact rfl) ?_)) | ((with_reducible refine sm_gJ hm (by with_unfolding_all exact rfl) ?_)) | ((with_reducible refine sm_gR hm (by with_unfolding_all exact rfl) ?_)) | ((with_reducible refine sm_o hm (fun l => ?_))) | ((with_reducible refine sm_r ?_ ?_); (first | exact any | assumption | first | exact ⟨false, rfl⟩ | exact ⟨true, rfl⟩ | assumption); assumption) | ((with_reducible refine sm_z ?_ ?_ ?_); (first | exact ⟨false, rfl⟩ | exact ⟨true, rfl⟩ | assumption); (first | exact any | exact ⟨false, rfl⟩ | exact ⟨true, rfl⟩ | assumption); assumption))
end MBO
end
section
/-! the reference boots: the rows that are tried (steps spelled out by sf/pp.py) -/
/-- r rows were tried and found good -/
def TRi (σ0 σ : px_S) (r : Nat) : Prop := FR [0, 115] [] [] [110, 111, 112, 113, 114] σ0 σ ∧ gI σ 115 = nI r ∧ ∀ i, i < r → ∃ s p fz, gB σ 112 i = lN s ∧ s ≤ 2 ^ 48 ∧ gB σ 111 i = lN p ∧ gB σ 113 i = lN fz ∧ p + fz ≤ 65536
section MRW
variable {F m : Nat} {h : px_H} {σ0 σ : px_S} {r : Nat}
theorem st_47 {x : Nat} (hx : x < 2 ^ 64) (h1 : ¬ lN x < lN 0) (h2 : ¬ (140737488355328 : Int64) < lN x) : x ≤ 2 ^ 48 := by
  by_cases c : x < 2 ^ 63
  · have : ¬ (140737488355328 : Int64).toInt < (lN x).toInt := fun w => h2 (Int64.lt_iff_toInt_lt.mpr w)
    rw [lN_T3 c] at this
    have e : (140737488355328 : Int64).toInt = 140737488355328 := by decide
    rw [e] at this
    omega
  · exfalso
    apply h1
    apply Int64.lt_iff_toInt_lt.mpr
    rw [lN_Tn (by omega) hx, lN_T3 (show 0 < 2 ^ 63 by decide)]
    omega
theorem sm_re_195 {P x1 x3 x5 : Nat} {a8 : Int64} (hm : m ≤ h.length) (hF : 8 < F) (hP : P + 56 ≤ 65536) (hr : r < 8) (h3 : x3 ≤ 2 ^ 48) (h15 : x1 + x5 ≤ 65536) (hI : TRi σ0 σ r) : Sm m h (fun σ' => TRi σ0 σ' (r + 1)) Any (f_M_rowError_195 F m (nI P) (lN x1) (lN x3) (lN x5) a8 (mh m h σ)) := by
  obtain ⟨hf, er, ht⟩ := hI
  unfold f_M_rowError_195
  rw [Mr110 hm, bs, Mg115 hm, bs, er, e_o hm, bs, nI_add]
  refine sm_tn hm hF (by decide) (by omega) (fun x hx => ?_)
  rw [Ms110 hm hr, bs, Mr111 hm, bs, Mg115 hm, bs, gI_sB, er, Ms111 hm hr, bs, Mr112 hm, bs, Mg115 hm, bs, gI_sB, gI_sB, er, Ms112 hm hr, bs, Mr113 hm, bs, Mg115 hm, bs, gI_sB, gI_sB, gI_sB, er, Ms113 hm hr, bs, Mr114 hm, bs, Mg115 hm, bs, gI_sB, gI_sB, gI_sB, gI_sB, er, Ms114 hm hr, bs, Mg115 hm, bs, gI_sB, gI_sB, gI_sB, gI_sB, gI_sB, er, nI_add, Mp115 hm, bs]
  have fB : ∀ (τ : px_S) (k : Nat) (g : Nat → Int64), k ∈ [110, 111, 112, 113, 114] → FR [0, 115] [] [] [110, 111, 112, 113, 114] σ0 τ → FR [0, 115] [] [] [110, 111, 112, 113, 114] σ0 (sB τ k g) := fun τ k g hk w => FR_trans w (FR_mono (FR_B _ _ _) (by simp) (by simp) (by simp) (fun i hi => by rw [List.mem_singleton.mp hi]; exact hk))
  refine sm_r any ⟨FR_trans (fB _ _ _ (by decide) (fB _ _ _ (by decide) (fB _ _ _ (by decide) (fB _ _ _ (by decide) (fB _ _ _ (by decide) hf))))) (FR_mono (FR_I _ _ _) (by decide) (by decide) (by decide) (by decide)), by rw [gI_sI, if_pos rfl], fun i hi => ?_⟩
  simp only [gB_sI, gB_sB]
  by_cases c : i = r
  · subst c
    exact ⟨x3, x1, x5, by simp [vp_eq], h3, by simp [vp_eq], by simp [vp_eq], h15⟩
  · obtain ⟨s, p, fz, e1, e2, e3, e4, e5⟩ := ht i (by omega)
    exact ⟨s, p, fz, by simp [vp_ne c, e1], e2, by simp [vp_ne c, e3], by simp [vp_ne c, e4], e5⟩
theorem sm_rowErr {P s : Nat} (hm : m ≤ h.length) (hF : 8 < F) (hs : s ≤ 65536) (es : gI σ0 101 = nI s) (hP : P + 56 ≤ s) (hr : r < 8) (hI : TRi σ0 σ r) : Sm m h (fun σ' => ∃ r', r' ≤ r + 1 ∧ TRi σ0 σ' r') Any (f_M_rowError F m (nI P) (mh m h σ)) := by
  have e101 : gI σ 101 = nI s := (hI.1.1 101 (by decide)).trans es
  have fin : ∀ {v : Int32}, Sm m h (fun σ' => ∃ r', r' ≤ r + 1 ∧ TRi σ0 σ' r') Any (some (v, mh m h σ)) := sm_r any ⟨r, by omega, hI⟩
  unfold f_M_rowError
  rw [nI_add, nI_add, nI_add, nI_add, nI_add]
  refine sm_o hm (fun _ => sm_tn hm hF (by decide) (by omega) (fun x1 hx1 => sm_o hm (fun _ => sm_tn hm hF (by decide) (by omega) (fun x3 hx3 => ?_))))
  refine sm_o hm (fun _ => sm_tn hm hF (by decide) (by omega) (fun x5 hx5 => sm_o hm (fun _ => sm_tn hm hF (by decide) (by omega) (fun x7 hx7 => ?_))))
  refine sm_o hm (fun _ => sm_tn hm hF (by decide) (by omega) (fun x9 hx9 => sm_gI hm rfl ?_))
  rw [e101, nI_l (by omega), q_lies (by omega) (by omega) (by omega), xb_mk]
  refine sm_i (fun _ => fin) (fun hl => ?_)
  have h15 : x1 + x5 ≤ s := by
    by_cases c : x1 + x5 ≤ s
    · exact c
    · rw [decide_eq_false c] at hl; exact absurd rfl hl
  have go : ¬ lN x3 < lN 0 → ¬ (140737488355328 : Int64) < lN x3 → Sm m h (fun σ' => ∃ r', r' ≤ r + 1 ∧ TRi σ0 σ' r') Any (f_M_rowError_157 F m (nI P) (lN x1) (lN x3) (lN x5) (lN x7) (mh m h σ)) := fun c1 c2 => by
    have h195 : Sm m h (fun σ' => ∃ r', r' ≤ r + 1 ∧ TRi σ0 σ' r') Any (f_M_rowError_195 F m (nI P) (lN x1) (lN x3) (lN x5) (lN x7) (mh m h σ)) := sm_wI (sm_re_195 hm hF (by omega) hr (st_47 (by omega) c1 c2) (by omega) hI) (fun σ' w => ⟨r + 1, by omega, w⟩)
    unfold f_M_rowError_157
    rw [Mg115 hm, bs, hI.2.1]
    refine sm_i (fun _ => h195) (fun hc => ?_)
    have h1r : 1 ≤ r := by
      apply Nat.pos_of_ne_zero
      intro e
      rw [e] at hc
      exact hc (by decide)
    rw [Mr112 hm, bs, bs, pk_sub h1r, Ma112 hm (by omega), bs, Mr114 hm, bs, bs, pk_sub h1r, Ma114 hm (by omega), bs]
    exact sm_i (fun _ => h195) (fun _ => fin)
  unfold f_M_rowError_92 f_M_rowError_132
  repeat' (first | (exact fin) | (exact go (by assumption) (by assumption)) | exact absurd (show nI 0 = 0 from rfl) (by assumption) | exact absurd (show nI 1 = 0 by assumption) (by decide) | ((with_reducible refine sm_i (fun hc => ?_) (fun hc => ?_))) | ((with_reducible refine sm_gI hm (by with_unfolding_all exact rfl) ?_)) | ((with_reducible refine sm_gJ hm (by with_unfolding_all exact rfl) ?_)) | ((with_reducible refine sm_gR hm (by with_unfolding_all exact rfl) ?_)) | ((with_reducible refine sm_o hm (fun l => ?_))) | ((with_reducible refine sm_r ?_ ?_); (first | exact any | assumption | first | exact ⟨false, rfl⟩ | exact ⟨true, rfl⟩ | assumption); assumption) | ((with_reducible refine sm_z ?_ ?_ ?_); (first | exact ⟨false, rfl⟩ | exact ⟨true, rfl⟩ | assumption); (first | exact any | exact ⟨false, rfl⟩ | exact ⟨true, rfl⟩ | assumption); assumption))
end MRW
end
section
/-! the reference boots: the executable that is tried (steps spelled out by sf/pp.py) -/
section MTR
variable {F m : Nat} {h : px_H} {σ0 σ : px_S} {r : Nat}
def TRx (σ0 σ : px_S) : Prop := ∃ r, r ≤ 8 ∧ TRi σ0 σ r
theorem sm_te_128 {x : Int64} (hm : m ≤ h.length) (hr : r ≤ 8) (hI : TRi σ0 σ r) : ∀ (d j f : Nat), j + d = r → d < f → Sm m h (TRx σ0) Any (f_M_triedError_128 F f m x (nI j) (mh m h σ)) := by
  have fin : ∀ {v : Int32}, Sm m h (TRx σ0) Any (some (v, mh m h σ)) := sm_r any ⟨r, hr, hI⟩
  intro d
  induction d with
  | zero =>
    intro j f hj hf
    obtain ⟨f, rfl⟩ : ∃ y, f = y + 1 := ⟨f - 1, by omega⟩
    unfold f_M_triedError_128 f_M_triedError_193
    rw [Mg115 hm, bs, hI.2.1, if_pos (nI_le (by omega) (by omega))]
    exact fin
  | succ d ih =>
    intro j f hj hf
    obtain ⟨f, rfl⟩ : ∃ y, f = y + 1 := ⟨f - 1, by omega⟩
    have go := ih (j + 1) f (by omega) (by omega)
    unfold f_M_triedError_128 f_M_triedError_193 f_M_triedError_187 f_M_triedError_185
    rw [Mg115 hm, bs, hI.2.1, if_neg (nI_ge (by omega) (by omega)), Mr110 hm, bs, Ma110 hm (by omega), bs, nI_add]
    refine sm_i (fun _ => ?_) (fun _ => go)
    rw [Mr112 hm, bs, Ma112 hm (by omega), bs]
    refine sm_i (fun _ => go) (fun _ => ?_)
    rw [bs, Ma112 hm (by omega), bs, Mr114 hm, bs, Ma114 hm (by omega), bs]
    exact sm_i (fun _ => go) (fun _ => fin)
theorem sm_te_61 {x s N : Nat} (hm : m ≤ h.length) (hF : 65540 < F) (hs : s ≤ 65536) (h64 : 64 ≤ s) (es : gI σ0 101 = nI s) (hN : N ≤ 8) (hx : x + 56 * N ≤ s) : ∀ (d j f : Nat) (σ : px_S), j + d = N → d < f → (∃ r, r ≤ j ∧ TRi σ0 σ r) → Sm m h (TRx σ0) Any (f_M_triedError_61 F f m (nI N) (lN x) (nI j) (mh m h σ)) := by
  intro d
  induction d with
  | zero =>
    intro j f σ hj hf hI
    obtain ⟨f, rfl⟩ : ∃ y, f = y + 1 := ⟨f - 1, by omega⟩
    obtain ⟨r, hr, hI⟩ := hI
    unfold f_M_triedError_61 f_M_triedError_115
    rw [if_pos (nI_le (by omega) (by omega))]
    exact sm_o hm (fun _ => sm_tn hm (by omega) (by decide) (by decide) (fun x hx => sm_te_128 hm (by omega) hI r 0 F (Nat.zero_add _) (by omega)))
  | succ d ih =>
    intro j f σ hj hf hI
    obtain ⟨f, rfl⟩ : ∃ y, f = y + 1 := ⟨f - 1, by omega⟩
    obtain ⟨r, hr, hI⟩ := hI
    unfold f_M_triedError_61 f_M_triedError_99 f_M_triedError_106
    rw [if_neg (nI_ge (by omega) (by omega)), lN_i, show nI 56 * nI j = nI (56 * j) from (Int32.ofNat_mul 56 j).symm, nI_add, nI_add]
    refine sm_o hm (fun _ => sm_tn hm (by omega) (by decide) (by omega) (fun x1 hx1 => sm_i (fun _ => ?_) (fun _ => ?_)))
    · refine sm_o hm (fun _ => sm_x (sm_rowErr (P := x + 56 * j) hm (by omega) hs es (by omega) (by omega) hI) (fun v σ hv hi => ?_))
      obtain ⟨r', hr', hI'⟩ := hi
      exact sm_i (fun _ => ih _ _ _ (by omega) (by omega) ⟨r', by omega, hI'⟩) (fun _ => sm_r any ⟨r', by omega, hI'⟩)
    · exact sm_i (fun _ => ih _ _ _ (by omega) (by omega) ⟨r, by omega, hI⟩) (fun hc => absurd (show nI 0 ≤ 0 by decide) hc)
theorem sm_triedErr {s : Nat} (hm : m ≤ h.length) (hF : 65540 < F) (hs : s ≤ 65536) (es : gI σ0 101 = nI s) : Sm m h (TRx σ0) (fun v => v ≤ 0 → 64 ≤ s) (f_M_triedError F m (mh m h σ0)) := by
  have hI0 : TRi σ0 (sI σ0 115 (nI 0)) 0 := ⟨FR_mono (FR_I _ _ _) (by decide) (by decide) (by decide) (by decide), by rw [gI_sI, if_pos rfl], fun i hi => absurd hi (Nat.not_lt_zero i)⟩
  have fin : ∀ {v : Int32}, (¬ v ≤ 0 ∨ 64 ≤ s) → Sm m h (TRx σ0) (fun v => v ≤ 0 → 64 ≤ s) (some (v, mh m h (sI σ0 115 (nI 0)))) := fun {v} hv => sm_r (fun w => hv.elim (fun x => absurd w x) id) ⟨0, by decide, hI0⟩
  unfold f_M_triedError f_M_triedError_56
  rw [Mp115 hm, bs]
  refine sm_o hm (fun _ => sm_x (sm_isExe (s := s) hm (by omega) (by rw [gI_sI, if_neg (by decide)]; exact es) hs) ?_)
  rintro v _ hv rfl
  refine sm_i (fun _ => fin (Or.inl (by decide))) (fun hc => ?_)
  rcases hv with rfl | ⟨rfl, h64⟩
  · exact absurd rfl hc
  · refine sm_o hm (fun _ => sm_tn hm (by omega) (by decide) (by decide) (fun x1 hx1 => sm_o hm (fun _ => sm_tn hm (by omega) (by decide) (by decide) (fun x2 hx2 => ?_))))
    rw [lN_i]
    refine sm_i (fun _ => fin (Or.inl (by decide))) (fun hc => sm_gI hm rfl ?_)
    have h8 : x1 ≤ 8 := Nat.le_of_not_lt (fun w => hc (nI_lt w (by omega)))
    rw [gI_sI, if_neg (by decide), es, nI_l (by omega), nI_l (by omega), show (56 : Int64) * lN x1 = lN (56 * x1) from (Int64.ofNat_mul 56 x1).symm, q_lies (by omega) (by omega) (by omega), xb_mk]
    refine sm_i (fun _ => fin (Or.inl (by decide))) (fun hl => ?_)
    have hx : x2 + 56 * x1 ≤ s := by
      by_cases c : x2 + 56 * x1 ≤ s
      · exact c
      · rw [decide_eq_false c] at hl; exact absurd rfl hl
    obtain ⟨v, σ, e, _, hI⟩ := sm_te_61 (F := F) (σ0 := σ0) (x := x2) (s := s) (N := x1) hm hF hs h64 es h8 hx x1 0 F _ (Nat.zero_add _) (by omega) ⟨0, Nat.le_refl _, hI0⟩
    exact ⟨v, σ, e, fun _ => h64, hI⟩
end MTR
end
section
/-! the reference boots: the memory's names (steps spelled out by sf/pp.py) -/
/-- c names were found -/
def MNi (σ0 σ : px_S) (c : Nat) : Prop := FR [44] [] [45, 46] [47] σ0 σ ∧ gI σ 44 = nI c ∧ ∀ i, i < c → ∃ p l, gA σ 45 i = nI p ∧ gA σ 46 i = nI l ∧ l ≤ 20 ∧ p + l ≤ 65536
section MMN
variable {F m : Nat} {h : px_H} {σ0 σ : px_S} {c : Nat}
theorem sm_ms_94 {P np ns x j : Nat} (hm : m ≤ h.length) (hF : 8 < F) (hP : P + 24 ≤ 65536) (hc : c < 2800) (hx : x < 2 ^ 32) (hj : j ≤ 21) (hnp : np + ns ≤ 65536) (hI : MNi σ0 σ c) : Sm m h (fun σ' => ∃ c', c' ≤ c + 1 ∧ MNi σ0 σ' c') Any (f_M_memorySymbol_94 F m (nI P) (lN np) (lN ns) (lN x) (nI j) (mh m h σ)) := by
  have fin : Sm m h (fun σ' => ∃ c', c' ≤ c + 1 ∧ MNi σ0 σ' c') Any (some ((), mh m h σ)) := sm_r any ⟨c, by omega, hI⟩
  obtain ⟨hf, ec, hn⟩ := id hI
  unfold f_M_memorySymbol_94 f_M_memorySymbol_118
  refine sm_i (fun _ => fin) (fun c1 => sm_i (fun _ => fin) (fun c2 => sm_i (fun c3 => ?_) (fun _ => fin)))
  rw [nI_l (by omega), lN_add, pk_lLE (by omega) (by omega)] at c1
  have hj20 : j ≤ 20 := Nat.le_of_not_lt (fun w => absurd c3 (nI_ge w (by omega)))
  rw [lN_add, lN_i, Mr45 hm, bs, Mg44 hm, bs, ec, Ms45 hm hc, bs, Mr46 hm, bs, Mg44 hm, bs, gI_sA, ec, Ms46 hm hc, bs, Mr47 hm, bs, Mg44 hm, bs, gI_sA, gI_sA, ec, nI_add]
  refine sm_o hm (fun _ => sm_tn hm hF (by decide) (by omega) (fun y hy => ?_))
  rw [Ms47 hm hc, bs, Mg44 hm, bs, gI_sB, gI_sA, gI_sA, ec, nI_add, Mp44 hm, bs]
  refine sm_r any ⟨c + 1, Nat.le_refl _, FR_trans (FR_trans (FR_trans (FR_trans hf (FR_mono (FR_A _ _ _) (by decide) (by decide) (by decide) (by decide))) (FR_mono (FR_A _ _ _) (by decide) (by decide) (by decide) (by decide))) (FR_mono (FR_B _ _ _) (by decide) (by decide) (by decide) (by decide))) (FR_mono (FR_I _ _ _) (by decide) (by decide) (by decide) (by decide)), by rw [gI_sI, if_pos rfl], fun i hi => ?_⟩
  simp only [gA_sI, gA_sB, gA_sA]
  by_cases e : i = c
  · subst e
    exact ⟨np + x, j, by simp [upd], by simp [upd], hj20, by omega⟩
  · obtain ⟨p, l, e1, e2, e3, e4⟩ := hn i (by omega)
    exact ⟨p, l, by simp [upd, e, e1], by simp [upd, e, e2], e3, e4⟩
theorem sm_ms_53 {P np ns x : Nat} (hm : m ≤ h.length) (hF : 65540 < F) (hP : P + 24 ≤ 65536) (hc : c < 2800) (hx : x < 2 ^ 32) (hnp : np + ns ≤ 65536) (hI : MNi σ0 σ c) : ∀ (d j f : Nat), j + d = 21 → d < f → Sm m h (fun σ' => ∃ c', c' ≤ c + 1 ∧ MNi σ0 σ' c') Any (f_M_memorySymbol_53 F f m (nI P) (lN np) (lN ns) (lN x) (nI j) (mh m h σ)) := by
  intro d
  induction d with
  | zero =>
    intro j f hj hf
    obtain ⟨f, rfl⟩ : ∃ y, f = y + 1 := ⟨f - 1, by omega⟩
    unfold f_M_memorySymbol_53
    refine sm_i (fun _ => sm_ms_94 hm (by omega) hP hc hx (by omega) hnp hI) (fun _ => ?_)
    rw [if_pos (nI_lt (by omega) (by omega))]
    exact sm_ms_94 hm (by omega) hP hc hx (by omega) hnp hI
  | succ d ih =>
    intro j f hj hf
    obtain ⟨f, rfl⟩ : ∃ y, f = y + 1 := ⟨f - 1, by omega⟩
    have h94 := sm_ms_94 (F := F) (j := j) hm (by omega) hP hc hx (by omega) hnp hI
    have go := ih (j + 1) f (by omega) (by omega)
    unfold f_M_memorySymbol_53
    refine sm_i (fun _ => h94) (fun c1 => ?_)
    rw [nI_l (by omega), lN_add, pk_lLE (by omega) (by omega)] at c1
    rw [if_neg (nI_nlt (by omega) (by omega)), Mr99 hm, bs, lN_add, lN_i, nI_add, Ma99 hm (by omega), bs, nI_add]
    exact sm_i (fun _ => h94) (fun _ => go)
theorem sm_msym {P np ns : Nat} (hm : m ≤ h.length) (hF : 65540 < F) (hP : P + 24 ≤ 65536) (hc : c < 2800) (hnp : np + ns ≤ 65536) (hI : MNi σ0 σ c) : Sm m h (fun σ' => ∃ c', c' ≤ c + 1 ∧ MNi σ0 σ' c') Any (f_M_memorySymbol F m (nI P) (lN np) (lN ns) (mh m h σ)) := by
  have fin : Sm m h (fun σ' => ∃ c', c' ≤ c + 1 ∧ MNi σ0 σ' c') Any (some ((), mh m h σ)) := sm_r any ⟨c, by omega, hI⟩
  unfold f_M_memorySymbol f_M_memorySymbol_35 f_M_memorySymbol_49
  rw [Mr99 hm, bs, nI_add, Ma99 hm (by omega), bs, nI_add]
  refine sm_o hm (fun _ => sm_tn hm (by omega) (by decide) (by omega) (fun x hx => ?_))
  have h53 := sm_ms_53 (F := F) (x := x) hm hF hP hc (by omega) hnp hI 21 0 F rfl (by omega)
  have t35 : Sm m h (fun σ' => ∃ c', c' ≤ c + 1 ∧ MNi σ0 σ' c') Any ((xo (mh m h σ) 12 m).bind fun _ => xb (f_M_triedNum F m (nI (P + 6)) (nI 2) (mh m h σ)) fun t1 ph2 => if t1 = lN 0 then some ((), ph2) else f_M_memorySymbol_53 F F m (nI P) (lN np) (lN ns) (lN x) (nI 0) ph2) := sm_o hm (fun _ => sm_tn hm (by omega) (by decide) (by omega) (fun y hy => sm_i (fun _ => fin) (fun _ => h53)))
  exact sm_i (fun _ => t35) (fun _ => sm_i (fun _ => t35) (fun _ => fin))
theorem sm_fm_273 {sp z np ns : Nat} (hm : m ≤ h.length) (hF : 65540 < F) (hsp : sp + z ≤ 65536) (hnp : np + ns ≤ 65536) : ∀ (d j f : Nat) (σ : px_S), j + d = 2731 → 1 ≤ j → d < f → (∃ c, c ≤ j ∧ MNi σ0 σ c) → Sm m h (fun σ' => ∃ c, c ≤ 2800 ∧ MNi σ0 σ' c) Any (f_M_findMemoryNames_273 F f m (lN sp) (lN z) (lN np) (lN ns) (nI j) (mh m h σ)) := by
  have ez : (lN z / (24 : Int64)).toInt32 = nI (z / 24) := by rw [lk, pk_lDiv (by omega) (by decide) (by decide), lN_i]
  intro d
  induction d with
  | zero =>
    intro j f σ hj hj1 hf hI
    obtain ⟨f, rfl⟩ : ∃ y, f = y + 1 := ⟨f - 1, by omega⟩
    obtain ⟨c, hc, hI⟩ := hI
    unfold f_M_findMemoryNames_273 f_M_findMemoryNames_308
    rw [ez, if_pos (nI_le (by omega) (by omega))]
    exact sm_r any ⟨c, by omega, hI⟩
  | succ d ih =>
    intro j f σ hj hj1 hf hI
    obtain ⟨f, rfl⟩ : ∃ y, f = y + 1 := ⟨f - 1, by omega⟩
    obtain ⟨c, hc, hI⟩ := hI
    unfold f_M_findMemoryNames_273 f_M_findMemoryNames_308
    rw [ez, lN_i, show nI 24 * nI j = nI (24 * j) from (Int32.ofNat_mul 24 j).symm, nI_add, nI_add]
    by_cases hz : z / 24 ≤ j
    · rw [if_pos (nI_le hz (by omega))]
      exact sm_r any ⟨c, by omega, hI⟩
    · rw [if_neg (nI_ge (by omega) (by omega))]
      refine sm_o hm (fun _ => sm_x (sm_msym (P := sp + 24 * j) hm hF (by omega) (by omega) hnp hI) (fun v σ hv hi => ?_))
      obtain ⟨c', hc', hI'⟩ := hi
      exact ih _ _ _ (by omega) (by omega) (by omega) ⟨c', by omega, hI'⟩
end MMN
end
section
/-! the reference boots, whole (steps spelled out by sf/pp.py) -/
section MBW
variable {F m : Nat} {h : px_H} {σ0 σ : px_S} {s : Nat}
theorem sm_fm_104 {x n j : Nat} (hm : m ≤ h.length) (hF : 65540 < F) (hs : s ≤ 65536) (es : gI σ0 101 = nI s) (hn : n ≤ 24) (hx : x + 64 * n ≤ s) (hj : j ≤ n) (hI : MNi σ0 σ 0) : Sm m h (fun σ' => ∃ c, c ≤ 2800 ∧ MNi σ0 σ' c) Any (f_M_findMemoryNames_104 F m (nI n) (lN x) (nI j) (mh m h σ)) := by
  have fin : Sm m h (fun σ' => ∃ c, c ≤ 2800 ∧ MNi σ0 σ' c) Any (some ((), mh m h σ)) := sm_r any ⟨0, by decide, hI⟩
  have e101 : gI σ 101 = nI s := (hI.1.1 101 (by decide)).trans es
  unfold f_M_findMemoryNames_104 f_M_findMemoryNames_200 f_M_findMemoryNames_269
  refine sm_i (fun _ => fin) (fun hne => ?_)
  have hjn : j < n := by
    apply Nat.lt_of_le_of_ne hj
    intro e
    exact hne (by rw [e])
  rw [lN_i, show nI 64 * nI j = nI (64 * j) from (Int32.ofNat_mul 64 j).symm, nI_add, nI_add, nI_add, nI_add]
  refine sm_o hm (fun _ => sm_tn hm (by omega) (by decide) (by omega) (fun sp hsp => sm_o hm (fun _ => sm_tn hm (by omega) (by decide) (by omega) (fun z hz => ?_))))
  refine sm_o hm (fun _ => sm_tn hm (by omega) (by decide) (by omega) (fun l hl => sm_i (fun _ => fin) (fun _ => sm_i (fun _ => ?_) (fun _ => fin))))
  refine sm_i (fun _ => fin) (fun hln => sm_gI hm rfl ?_)
  rw [nI_l (by omega), pk_lLE (by omega) (by omega)] at hln
  rw [e101, nI_l (by omega), q_lies (by omega) (by omega) (by omega), xb_mk]
  refine sm_i (fun _ => fin) (fun hl1 => ?_)
  have h1 : sp + z ≤ s := by
    by_cases c : sp + z ≤ s
    · exact c
    · rw [decide_eq_false c] at hl1; exact absurd rfl hl1
  rw [lN_i, show nI 64 * nI l = nI (64 * l) from (Int32.ofNat_mul 64 l).symm, nI_add, nI_add, nI_add, nI_add]
  refine sm_o hm (fun _ => sm_tn hm (by omega) (by decide) (by omega) (fun np hnp => sm_o hm (fun _ => sm_tn hm (by omega) (by decide) (by omega) (fun ns hns => ?_))))
  refine sm_o hm (fun _ => sm_tn hm (by omega) (by decide) (by omega) (fun t ht => sm_i (fun _ => sm_gI hm rfl ?_) (fun _ => fin)))
  rw [e101, nI_l (by omega), q_lies (by omega) (by omega) (by omega), xb_mk]
  refine sm_i (fun _ => fin) (fun hl2 => ?_)
  have h2 : np + ns ≤ s := by
    by_cases c : np + ns ≤ s
    · exact c
    · rw [decide_eq_false c] at hl2; exact absurd rfl hl2
  exact sm_fm_273 hm hF (by omega) (by omega) 2730 1 F σ rfl (by omega) (by omega) ⟨0, by omega, hI⟩
theorem sm_fm_70 {x n : Nat} (hm : m ≤ h.length) (hF : 65540 < F) (hs : s ≤ 65536) (es : gI σ0 101 = nI s) (hn : n ≤ 24) (hx : x + 64 * n ≤ s) (hI : MNi σ0 σ 0) : ∀ (d j f : Nat), j + d = n → d < f → Sm m h (fun σ' => ∃ c, c ≤ 2800 ∧ MNi σ0 σ' c) Any (f_M_findMemoryNames_70 F f m (nI n) (lN x) (nI j) (mh m h σ)) := by
  intro d
  induction d with
  | zero =>
    intro j f hj hf
    obtain ⟨f, rfl⟩ : ∃ y, f = y + 1 := ⟨f - 1, by omega⟩
    unfold f_M_findMemoryNames_70
    rw [if_pos (nI_le (by omega) (by omega))]
    exact sm_fm_104 hm hF hs es hn hx (by omega) hI
  | succ d ih =>
    intro j f hj hf
    obtain ⟨f, rfl⟩ : ∃ y, f = y + 1 := ⟨f - 1, by omega⟩
    have go := ih (j + 1) f (by omega) (by omega)
    have h104 := sm_fm_104 (F := F) (j := j) hm hF hs es hn hx (by omega) hI
    unfold f_M_findMemoryNames_70
    rw [if_neg (nI_ge (by omega) (by omega)), lN_i, show nI 64 * nI j = nI (64 * j) from (Int32.ofNat_mul 64 j).symm, nI_add, nI_add, nI_add]
    exact sm_o hm (fun _ => sm_tn hm (by omega) (by decide) (by omega) (fun t ht => sm_i (fun _ => h104) (fun _ => go)))
theorem sm_fm (hm : m ≤ h.length) (hF : 65540 < F) (hs : s ≤ 65536) (es : gI σ0 101 = nI s) : Sm m h (fun σ' => ∃ c, c ≤ 2800 ∧ MNi σ0 σ' c) Any (f_M_findMemoryNames F m (mh m h σ0)) := by
  have hI : MNi σ0 (sI σ0 44 (nI 0)) 0 := ⟨FR_mono (FR_I _ _ _) (by decide) (by decide) (by decide) (by decide), by rw [gI_sI, if_pos rfl], fun i hi => absurd hi (Nat.not_lt_zero i)⟩
  have fin : Sm m h (fun σ' => ∃ c, c ≤ 2800 ∧ MNi σ0 σ' c) Any (some ((), mh m h (sI σ0 44 (nI 0)))) := sm_r any ⟨0, by decide, hI⟩
  unfold f_M_findMemoryNames f_M_findMemoryNames_66
  rw [Mp44 hm, bs]
  refine sm_o hm (fun _ => sm_tn hm (by omega) (by decide) (by decide) (fun n hn => sm_o hm (fun _ => sm_tn hm (by omega) (by decide) (by decide) (fun x hx => ?_))))
  refine sm_o hm (fun _ => sm_tn hm (by omega) (by decide) (by decide) (fun t ht => sm_i (fun _ => ?_) (fun _ => fin)))
  rw [lN_i]
  refine sm_i (fun _ => fin) (fun _ => sm_i (fun _ => fin) (fun hc => sm_gI hm rfl ?_))
  have h24 : n ≤ 24 := Nat.le_of_not_lt (fun w => hc (nI_lt w (by omega)))
  rw [gI_sI, if_neg (by decide), es, nI_l (by omega), nI_l (by omega), show (64 : Int64) * lN n = lN (64 * n) from (Int64.ofNat_mul 64 n).symm, q_lies (by omega) (by omega) (by omega), xb_mk]
  refine sm_i (fun _ => fin) (fun hl => ?_)
  have h1 : x + 64 * n ≤ s := by
    by_cases c : x + 64 * n ≤ s
    · exact c
    · rw [decide_eq_false c] at hl; exact absurd rfl hl
  exact sm_fm_70 hm hF hs es h24 h1 hI n 0 F (Nat.zero_add _) (by omega)
end MBW
end
section
/-! the reference boots: all of it (steps spelled out by sf/pp.py) -/
def BFr (σ0 σ : px_S) : Prop := FR [0, 2, 44, 101, 102, 103, 115] [104] [45, 46, 99, 100] [47, 105, 106, 107, 108, 109, 110, 111, 112, 113, 114] σ0 σ
/-- rows are taken over: j of them -/
def B8i (σa σ : px_S) (j : Nat) : Prop := FR [] [] [] [105, 106, 107, 108, 109] σa σ ∧ ∀ i, i < j → gB σ 106 i = gB σa 111 i ∧ gB σ 107 i = gB σa 112 i ∧ gB σ 108 i = gB σa 113 i
section MBX
variable {F m : Nat} {h : px_H} {σ0 σa σ : px_S} {s r : Nat}
theorem B8_1 {j : Nat} (hI : B8i σa σ j) : B8i σa (sB (sB (sB (sB (sB σ 105 (vp_updL (gB σ 105) j (gB σa 110 j))) 106 (vp_updL (gB σ 106) j (gB σa 111 j))) 107 (vp_updL (gB σ 107) j (gB σa 112 j))) 108 (vp_updL (gB σ 108) j (gB σa 113 j))) 109 (vp_updL (gB σ 109) j (gB σa 114 j))) (j + 1) := by
  obtain ⟨hf, ht⟩ := hI
  have fB : ∀ (τ : px_S) (k : Nat) (g : Nat → Int64), k ∈ [105, 106, 107, 108, 109] → FR [] [] [] [105, 106, 107, 108, 109] σa τ → FR [] [] [] [105, 106, 107, 108, 109] σa (sB τ k g) := fun τ k g hk w => FR_trans w (FR_mono (FR_B _ _ _) (by simp) (by simp) (by simp) (fun i hi => by rw [List.mem_singleton.mp hi]; exact hk))
  refine ⟨fB _ _ _ (by decide) (fB _ _ _ (by decide) (fB _ _ _ (by decide) (fB _ _ _ (by decide) (fB _ _ _ (by decide) hf)))), fun i hi => ?_⟩
  simp only [gB_sB]
  by_cases e : i = j
  · subst e
    exact ⟨by simp [vp_eq], by simp [vp_eq], by simp [vp_eq]⟩
  · obtain ⟨e1, e2, e3⟩ := ht i (by omega)
    exact ⟨by simp [vp_ne e, e1], by simp [vp_ne e, e2], by simp [vp_ne e, e3]⟩
theorem sm_b_148 (hm : m ≤ h.length) (hr : r ≤ 8) (er : gI σa 102 = nI r) : ∀ (d j f : Nat) (σ : px_S), j + d = r → d < f → B8i σa σ j → Sm m h (fun σ' => B8i σa σ' r) Any (f_M_boot_148 F f m (nI j) (mh m h σ)) := by
  intro d
  induction d with
  | zero =>
    intro j f σ hj hf hI
    obtain ⟨f, rfl⟩ : ∃ y, f = y + 1 := ⟨f - 1, by omega⟩
    obtain rfl : j = r := by omega
    unfold f_M_boot_148 f_M_boot_222
    rw [Mg102 hm, bs, hI.1.1 102 List.not_mem_nil, er, if_pos (nI_le (by omega) (by omega))]
    exact sm_r any hI
  | succ d ih =>
    intro j f σ hj hf hI
    obtain ⟨f, rfl⟩ : ∃ y, f = y + 1 := ⟨f - 1, by omega⟩
    have hj8 : j < 8 := by omega
    have e110 : gB σ 110 = gB σa 110 := hI.1.2.2.2 110 (by decide)
    have e111 : gB σ 111 = gB σa 111 := hI.1.2.2.2 111 (by decide)
    have e112 : gB σ 112 = gB σa 112 := hI.1.2.2.2 112 (by decide)
    have e113 : gB σ 113 = gB σa 113 := hI.1.2.2.2 113 (by decide)
    have e114 : gB σ 114 = gB σa 114 := hI.1.2.2.2 114 (by decide)
    unfold f_M_boot_148 f_M_boot_222
    rw [Mg102 hm, bs, hI.1.1 102 List.not_mem_nil, er, if_neg (nI_ge (by omega) (by omega)), nI_add]
    rw [Mr105 hm, bs, Mr110 hm, bs, Ma110 hm hj8, bs, Ms105 hm hj8, bs, Mr106 hm, bs, Mr111 hm, bs, Ma111 hm hj8, bs, Ms106 hm hj8, bs, Mr107 hm, bs, Mr112 hm, bs, Ma112 hm hj8, bs, Ms107 hm hj8, bs, Mr108 hm, bs, Mr113 hm, bs, Ma113 hm hj8, bs, Ms108 hm hj8, bs, Mr109 hm, bs, Mr114 hm, bs, Ma114 hm hj8, bs, Ms109 hm hj8, bs]
    refine ih _ _ _ (by omega) (by omega) ?_
    have w := B8_1 hI
    rw [← e110, ← e111, ← e112, ← e113, ← e114] at w
    exact w
theorem sm_b_116 (hm : m ≤ h.length) (hF : 65540 < F) (hs : s ≤ 65536) (hr : r ≤ 8) : ∀ (d j f : Nat) (σ : px_S), j + d = s → d < f → gI σ 101 = nI s → gI σ 102 = nI r → Sm m h (fun σ' => ∃ σ1 σ2 c, FR [] [] [100] [] σ σ1 ∧ c ≤ 2800 ∧ MNi σ1 σ2 c ∧ B8i σ2 σ' r) Any (f_M_boot_116 F f m (nI j) (mh m h σ)) := by
  intro d
  induction d with
  | zero =>
    intro j f σ hj hf es er
    obtain ⟨f, rfl⟩ : ∃ y, f = y + 1 := ⟨f - 1, by omega⟩
    unfold f_M_boot_116 f_M_boot_142
    rw [Mg101 hm, bs, es, if_pos (nI_le (by omega) (by omega))]
    refine sm_o hm (fun _ => sm_x (sm_fm hm hF hs es) (fun v σ2 hv hi => ?_))
    obtain ⟨c, hc, hI⟩ := hi
    exact sm_wI (sm_b_148 (F := F) (σa := σ2) hm hr ((hI.1.1 102 (by decide)).trans er) r 0 F σ2 (Nat.zero_add _) (by omega) ⟨FR_refl _, fun i hi => absurd hi (Nat.not_lt_zero i)⟩) (fun σ' w => ⟨σ, σ2, c, FR_refl _, hc, hI, w⟩)
  | succ d ih =>
    intro j f σ hj hf es er
    obtain ⟨f, rfl⟩ : ∃ y, f = y + 1 := ⟨f - 1, by omega⟩
    unfold f_M_boot_116
    rw [Mg101 hm, bs, es, if_neg (nI_ge (by omega) (by omega)), Mr100 hm, bs, Mr99 hm, bs, Ma99 hm (by omega), bs, Ms100 hm (by omega), bs, nI_add]
    refine sm_wI (ih (j + 1) f _ (by omega) (by omega) es er) (fun σ' w => ?_)
    obtain ⟨σ1, σ2, c, w1, w2, w3, w4⟩ := w
    exact ⟨σ1, σ2, c, FR_trans (FR_A _ _ _) w1, w2, w3, w4⟩
end MBX
end
section
/-! the reference boots: all of it, put together (steps spelled out by sf/pp.py) -/
def BF2 (σ0 σ : px_S) : Prop := FR [0, 44, 102, 103, 115] [104] [45, 46, 100] [47, 105, 106, 107, 108, 109, 110, 111, 112, 113, 114] σ0 σ
/-- what a boot leaves -/
def BEn (a1 : Int32) (σ σ' : px_S) : Prop := BFr σ σ' ∧ gI σ' 2 = (if a1 = 0 then gI σ 2 else nI 0) ∧ MV σ' ∧ MNa σ'
section MBY
variable {F m : Nat} {h : px_H} {σ0 σ : px_S} {s : Nat}
theorem sm_b_74 (hm : m ≤ h.length) (hF : 65540 < F) (hs : s ≤ 65536) (es : gI σ 101 = nI s) (hv : MV σ) (hn : MNa σ) : Sm m h (fun σ' => BF2 σ σ' ∧ MV σ' ∧ MNa σ') Any (f_M_boot_74 F m (mh m h σ)) := by
  unfold f_M_boot_74
  refine sm_o hm (fun _ => sm_x (sm_triedErr hm hF hs es) (fun v σ2 hv2 hi => ?_))
  obtain ⟨r, hr, hf, er, ht⟩ := hi
  rw [Mp103 hm, bs, Mg103 hm, bs, gI_sI, if_pos rfl]
  refine sm_i (fun _ => ?_) (fun _ => ?_)
  · rw [Mg115 hm, bs, gI_sI, if_neg (by decide), er, Mp102 hm, bs]
    refine sm_o hm (fun _ => sm_tn hm (by omega) (by decide) (by decide) (fun y hy => ?_))
    rw [Mp104 hm, bs]
    have e101 : gI σ2 101 = nI s := (hf.1 101 (by decide)).trans es
    refine sm_wI (sm_b_116 (F := F) (s := s) (r := r) hm hF hs hr s 0 F _ (Nat.zero_add _) (by omega) (by rw [gI_sJ, gI_sI, if_neg (by decide), gI_sI, if_neg (by decide)]; exact e101) (by rw [gI_sJ, gI_sI, if_pos rfl])) (fun σ' w => ?_)
    obtain ⟨σa, σb, c, w1, hc, ⟨w2, ec, hnm⟩, w3, w4⟩ := w
    refine ⟨?_, ⟨r, hr, ?_, fun i hi => ?_⟩, ⟨c, hc, ?_, fun i hi => ?_⟩⟩
    · refine FR_trans (FR_trans (FR_trans (FR_trans (FR_trans (FR_trans (FR_mono hf ?_ ?_ ?_ ?_) (FR_mono (FR_I σ2 103 v) ?_ ?_ ?_ ?_)) (FR_mono (FR_I _ 102 (nI r)) ?_ ?_ ?_ ?_)) (FR_mono (FR_J _ 104 _) ?_ ?_ ?_ ?_)) (FR_mono w1 ?_ ?_ ?_ ?_)) (FR_mono w2 ?_ ?_ ?_ ?_)) (FR_mono w3 ?_ ?_ ?_ ?_)
      all_goals decide
    · rw [w3.1 102 List.not_mem_nil, w2.1 102 (by decide), w1.1 102 List.not_mem_nil, gI_sJ, gI_sI, if_pos rfl]
    · obtain ⟨e1, e2, e3⟩ := w4 i hi
      rw [e1, e2, e3, w2.2.2.2 111 (by decide), w2.2.2.2 112 (by decide), w2.2.2.2 113 (by decide), w1.2.2.2 111 List.not_mem_nil, w1.2.2.2 112 List.not_mem_nil, w1.2.2.2 113 List.not_mem_nil]
      exact ht i hi
    · rw [w3.1 44 List.not_mem_nil]; exact ec
    · rw [w3.2.2.1 45 List.not_mem_nil, w3.2.2.1 46 List.not_mem_nil]; exact hnm i hi
  · rw [bs]
    obtain ⟨r0, hr0, er0, h0⟩ := hv
    obtain ⟨c0, hc0, ec0, hn0⟩ := hn
    refine sm_r any ⟨?_, ⟨r0, hr0, ?_, fun i hi => ?_⟩, ⟨c0, hc0, ?_, fun i hi => ?_⟩⟩
    · refine FR_trans (FR_mono hf ?_ ?_ ?_ ?_) (FR_mono (FR_I σ2 103 v) ?_ ?_ ?_ ?_)
      all_goals decide
    · rw [gI_sI, if_neg (by decide), hf.1 102 (by decide)]; exact er0
    · rw [gB_sI, gB_sI, gB_sI, hf.2.2.2 106 (by decide), hf.2.2.2 107 (by decide), hf.2.2.2 108 (by decide)]; exact h0 i hi
    · rw [gI_sI, if_neg (by decide), hf.1 44 (by decide)]; exact ec0
    · rw [gA_sI, gA_sI, hf.2.2.1 45 List.not_mem_nil, hf.2.2.1 46 List.not_mem_nil]; exact hn0 i hi
/-- the bytes are taken over to be tried, from the tape or from OUT -/
theorem sm_b_26 {a1 : Int32} (hm : m ≤ h.length) (hF : 65540 < F) (hs : s ≤ 65536) (hs1 : ¬ a1 = 0 → s ≤ 8192) : ∀ (d j f : Nat) (σ : px_S), j + d = s → d < f → gI σ 101 = nI s → MV σ → MNa σ → Sm m h (BEn a1 σ) Any (f_M_boot_26 F f m a1 (nI j) (mh m h σ)) := by
  have up : ∀ {τ τ' : px_S}, BF2 τ τ' → BFr τ τ' := fun w => FR_mono w (by decide) (by decide) (by decide) (by decide)
  intro d
  induction d with
  | zero =>
    intro j f σ hj hf es hv hn
    obtain ⟨f, rfl⟩ : ∃ y, f = y + 1 := ⟨f - 1, by omega⟩
    unfold f_M_boot_26 f_M_boot_65
    rw [Mg101 hm, bs, es, if_pos (nI_le (by omega) (by omega))]
    by_cases c : a1 = 0
    · rw [if_pos c]
      refine sm_wI (sm_b_74 hm hF hs es hv hn) (fun σ' w => ⟨up w.1, ?_, w.2.1, w.2.2⟩)
      rw [if_pos c]
      exact w.1.1 2 (by decide)
    · rw [if_neg c, Mp2 hm, bs]
      refine sm_wI (sm_b_74 (σ := sI σ 2 (nI 0)) hm hF hs es hv hn) (fun σ' w => ⟨FR_trans (FR_mono (FR_I _ _ _) (by decide) (by decide) (by decide) (by decide)) (up w.1), ?_, w.2.1, w.2.2⟩)
      rw [if_neg c, w.1.1 2 (by decide), gI_sI, if_pos rfl]
  | succ d ih =>
    intro j f σ hj hf es hv hn
    obtain ⟨f, rfl⟩ : ∃ y, f = y + 1 := ⟨f - 1, by omega⟩
    have go : ∀ v, Sm m h (BEn a1 σ) Any (f_M_boot_26 F f m a1 (nI (j + 1)) (mh m h (sA σ 99 (upd (gA σ 99) j v)))) := fun v => sm_wI (ih (j + 1) f (sA σ 99 (upd (gA σ 99) j v)) (by omega) (by omega) es hv hn) (fun σ' w => ⟨FR_trans (FR_mono (FR_A _ _ _) (by decide) (by decide) (by decide) (by decide)) w.1, w.2.1, w.2.2.1, w.2.2.2⟩)
    unfold f_M_boot_26 f_M_boot_58
    rw [Mg101 hm, bs, es, if_neg (nI_ge (by omega) (by omega)), Mr99 hm, bs]
    by_cases c : a1 = 0
    · rw [if_pos c, Mr3 hm, bs, Ma3 hm (by omega), bs, Ms99 hm (by omega), bs, nI_add]
      exact go _
    · have h8 := hs1 c
      rw [if_neg c, Mr1 hm, bs, Ma1 hm (by omega), bs, Ms99 hm (by omega), bs, nI_add]
      exact go _
theorem sm_boot {a1 : Int32} {n : Nat} {b : Nat → Nat} (hm : m ≤ h.length) (hF : 65540 < F) (ht : RT σ n b) (ho : OUo σ) (hv : MV σ) (hn : MNa σ) : Sm m h (BEn a1 σ) Any (f_M_boot F m a1 (mh m h σ)) := by
  obtain ⟨⟨c, hc, ec⟩, _⟩ := ho
  unfold f_M_boot f_M_boot_21
  rw [Mp0 hm, bs]
  have fin : ∀ k : Nat, k ≤ 65536 → (¬ a1 = 0 → k ≤ 8192) → Sm m h (BEn a1 σ) Any (f_M_boot_26 F F m a1 (nI 0) (mh m h (sI (sI σ 0 (nI 0)) 101 (nI k)))) := fun k hk hk1 => sm_wI (sm_b_26 (s := k) (σ := sI (sI σ 0 (nI 0)) 101 (nI k)) hm hF hk hk1 k 0 F (Nat.zero_add _) (by omega) (by rw [gI_sI, if_pos rfl]) hv hn) (fun σ' w => ⟨FR_trans (FR_trans (FR_mono (FR_I _ _ _) (by decide) (by decide) (by decide) (by decide)) (FR_mono (FR_I _ _ _) (by decide) (by decide) (by decide) (by decide))) w.1, w.2.1, w.2.2.1, w.2.2.2⟩)
  by_cases c0 : a1 = 0
  · rw [if_pos c0, Mg4 hm, bs, gI_sI, if_neg (by decide), ec, Mp101 hm, bs]
    exact fin c hc (fun w => absurd c0 w)
  · rw [if_neg c0, Mg2 hm, bs, gI_sI, if_neg (by decide), ht.1, Mp101 hm, bs]
    exact fin n (by have := ht.2.1; omega) (fun _ => ht.2.1)
end MBY
end
section
/-! the reference says a number: safe (steps spelled out by sf/pp.py) -/
/-- how many digits -/
def wdN (v : Nat) : Nat := if v < 10 then 1 else if v < 100 then 2 else if v < 1000 then 3 else if v < 10000 then 4 else 5
section MDG
variable {F m : Nat} {h : px_H} {σ0 σ : px_S} {c : Nat}
theorem nI_divG {a b : Nat} (ha : a < 2 ^ 30) (hb : b < 2 ^ 30) : nI a / nI b = nI (a / b) := by
  apply Int32.toInt_inj.mp
  rw [Int32.toInt_div]
  have hd : a / b ≤ a := Nat.div_le_self _ _
  have e1 : (nI a).toInt = (a : Int) := nI_toInt (by omega)
  have e2 : (nI b).toInt = (b : Int) := nI_toInt (by omega)
  have e3 : (nI (a / b)).toInt = ((a / b : Nat) : Int) := nI_toInt (by omega)
  rw [e1, e2, e3, Int.tdiv_eq_ediv_of_nonneg (Int.natCast_nonneg a), ← Int.natCast_ediv]
  generalize a / b = q at hd
  exact Int.bmod_eq_of_le (by omega) (by omega)
theorem q_wide {v : Nat} {ph : px_H} (hv : v < 2 ^ 30) : f_M_wide F (nI v) ph = some (nI (wdN v), ph) := by
  unfold f_M_wide f_M_wide_43 wdN
  by_cases c1 : v < 10
  · rw [if_neg (nI_ge c1 (by omega)), if_pos c1]
  · rw [if_pos (nI_le (show 10 ≤ v by omega) (by omega)), if_neg c1]
    by_cases c2 : v < 100
    · rw [if_neg (nI_ge c2 (by omega)), if_pos c2]
    · rw [if_pos (nI_le (show 100 ≤ v by omega) (by omega)), if_neg c2]
      by_cases c3 : v < 1000
      · rw [if_neg (nI_ge c3 (by omega)), if_pos c3]
      · rw [if_pos (nI_le (show 1000 ≤ v by omega) (by omega)), if_neg c3]
        by_cases c4 : v < 10000
        · rw [if_neg (nI_ge c4 (by omega)), if_pos c4]
        · rw [if_pos (nI_le (show 10000 ≤ v by omega) (by omega)), if_neg c4]
theorem sm_dg_21 {v : Int32} (hm : m ≤ h.length) : ∀ (k f p : Nat) (σ : px_S), k ≤ 5 → k < f → p + k ≤ 65536 → OWi σ0 σ c → Sm m h (fun σ' => OWi σ0 σ' c) Any (f_M_digits_21 F f m v (nI (10 ^ k / 10)) (nI p) (mh m h σ)) := by
  intro k
  induction k with
  | zero =>
    intro f p σ hk hf hp hI
    obtain ⟨f, rfl⟩ : ∃ y, f = y + 1 := ⟨f - 1, by omega⟩
    unfold f_M_digits_21 f_M_digits_53
    rw [if_pos (by decide)]
    exact sm_r any hI
  | succ k ih =>
    intro f p σ hk hf hp hI
    obtain ⟨f, rfl⟩ : ∃ y, f = y + 1 := ⟨f - 1, by omega⟩
    have e10 : 10 ^ (k + 1) / 10 = 10 ^ k := by rw [Nat.pow_succ, Nat.mul_div_cancel _ (by decide)]
    have hb : 10 ^ k ≤ 10 ^ 4 := Nat.pow_le_pow_right (by decide) (by omega)
    have h1 : 1 ≤ 10 ^ k := Nat.pos_of_ne_zero (by simp)
    rw [e10]
    have hn : ¬ nI (10 ^ k) ≤ 0 := fun w => absurd w (nI_ge (a := 0) (b := 10 ^ k) (by omega) (by omega))
    have hx : xnzI (nI (10 ^ k)) = some () := by
      unfold xnzI
      rw [if_neg (fun w => hn (by rw [w]; decide))]
    unfold f_M_digits_21
    rw [if_neg hn, Mr3 hm, bs, hx, bs, nI_divG (by omega) (by decide), nI_add]
    exact sm_w3 hm hI (by omega) (fun σ hi => ih f (p + 1) σ (by omega) (by omega) (by omega) hi)
theorem sm_dg_2 {v p : Nat} (hm : m ≤ h.length) (hF : 65540 < F) (hv : v ≤ 99999) (hp : p + wdN v ≤ 65536) (hI : OWi σ0 σ c) : ∀ (d k f : Nat), k + d = 4 → d < f → 10 ^ k ≤ v ∨ k = 0 → Sm m h (fun σ' => OWi σ0 σ' c) Any (f_M_digits_2 F f m (nI p) (nI v) (nI (10 ^ k)) (mh m h σ)) := by
  have stop : ∀ k, k ≤ 4 → (10 ^ k ≤ v ∨ k = 0) → v < 10 ^ (k + 1) → Sm m h (fun σ' => OWi σ0 σ' c) Any (f_M_digits_18 F m (nI p) (nI v) (nI (10 ^ k)) (mh m h σ)) := fun k hk h1 h2 => by
    have e10 : 10 ^ k = 10 ^ (k + 1) / 10 := by rw [Nat.pow_succ, Nat.mul_div_cancel _ (by decide)]
    have hw : wdN v = k + 1 := by
      have : k = 0 ∨ k = 1 ∨ k = 2 ∨ k = 3 ∨ k = 4 := by omega
      unfold wdN
      rcases this with rfl | rfl | rfl | rfl | rfl
      · rw [if_pos (by omega)]
      · rw [if_neg (by omega), if_pos (by omega)]
      · rw [if_neg (by omega), if_neg (by omega), if_pos (by omega)]
      · rw [if_neg (by omega), if_neg (by omega), if_neg (by omega), if_pos (by omega)]
      · rw [if_neg (by omega), if_neg (by omega), if_neg (by omega), if_neg (by omega)]
    unfold f_M_digits_18
    rw [e10]
    exact sm_dg_21 hm (k + 1) F p σ (by omega) (by omega) (by omega) hI
  have nz : ∀ k, k ≤ 4 → xnzI (nI (10 ^ k)) = some () := fun k hk => by
    have : k = 0 ∨ k = 1 ∨ k = 2 ∨ k = 3 ∨ k = 4 := by omega
    rcases this with rfl | rfl | rfl | rfl | rfl <;> decide
  have bd : ∀ k, k ≤ 4 → 1 ≤ 10 ^ k ∧ 10 ^ k ≤ 10000 := fun k hk => ⟨Nat.pos_of_ne_zero (by simp), (Nat.pow_le_pow_right (by decide) hk : 10 ^ k ≤ 10 ^ 4)⟩
  have dv : ∀ k, k ≤ 4 → (v / 10 ^ k ≤ 9 ↔ v < 10 ^ (k + 1)) := fun k hk => by
    rw [Nat.pow_succ, Nat.mul_comm, ← Nat.div_lt_iff_lt_mul (bd k hk).1]; omega
  intro d
  induction d with
  | zero =>
    intro k f hk hf h1
    obtain ⟨f, rfl⟩ : ∃ y, f = y + 1 := ⟨f - 1, by omega⟩
    obtain rfl : k = 4 := by omega
    unfold f_M_digits_2
    rw [nz 4 (by decide), bs, nI_divG (by omega) (by decide), if_pos (nI_le ((dv 4 (by decide)).mpr (by omega)) (by decide))]
    exact stop 4 (by decide) h1 (by omega)
  | succ d ih =>
    intro k f hk hf h1
    obtain ⟨f, rfl⟩ : ∃ y, f = y + 1 := ⟨f - 1, by omega⟩
    have hb := bd k (by omega)
    unfold f_M_digits_2
    rw [nz k (by omega), bs, nI_divG (by omega) (by omega)]
    by_cases c9 : v / 10 ^ k ≤ 9
    · rw [if_pos (nI_le c9 (by decide))]
      exact stop k (by omega) h1 ((dv k (by omega)).mp c9)
    · have hd : v / 10 ^ k ≤ v := Nat.div_le_self _ _
      rw [if_neg (nI_ge (by omega) (by omega)), show nI 10 * nI (10 ^ k) = nI (10 * 10 ^ k) from (Int32.ofNat_mul 10 (10 ^ k)).symm, Nat.mul_comm 10 (10 ^ k), ← Nat.pow_succ]
      exact ih (k + 1) f (by omega) (by omega) (Or.inl (Nat.le_of_not_lt (fun w => c9 ((dv k (by omega)).mpr w))))
/-- a number and what comes behind it -/
theorem sm_sayN {v : Nat} {w : Int32} (hm : m ≤ h.length) (hF : 65540 < F) (hv : v ≤ 99999) (hc : c + wdN v + 1 ≤ 65536) (hI : OWi σ0 σ c) : Sm m h (fun σ' => OWi σ0 σ' (c + wdN v + 1)) Any (f_M_sayNumber F m (nI v) w (mh m h σ)) := by
  unfold f_M_sayNumber f_M_digits
  rw [Mg4 hm, bs, hI.2.1]
  refine sm_o hm (fun _ => sm_x (sm_dg_2 hm hF hv (by omega) hI 4 0 F rfl (by omega) (Or.inr rfl)) (fun _ σ _ hi => ?_))
  rw [Mg4 hm, bs, hi.2.1, q_wide (by omega), xb_mk, nI_add]
  refine sm_p4 hm hi (fun σ hi => ?_)
  rw [Mr3 hm, bs, Mg4 hm, bs, hi.2.1]
  refine sm_w3 hm hi (by omega) (fun σ hi => ?_)
  rw [Mg4 hm, bs, hi.2.1, nI_add]
  exact sm_p4 hm hi (fun σ hi => sm_r any hi)
end MDG
end
section
/-! the reference's map: safe (steps spelled out by sf/pp.py) -/
def sumT (f : Nat → Nat) : Nat → Nat
  | 0 => 0
  | n + 1 => sumT f n + f n
theorem sumT_le {f : Nat → Nat} : ∀ {a b : Nat}, a ≤ b → sumT f a ≤ sumT f b
  | a, 0, h => by rw [Nat.le_zero.mp h]; exact Nat.le_refl _
  | a, b + 1, h => by
    by_cases e : a = b + 1
    · rw [e]; exact Nat.le_refl _
    · exact Nat.le_trans (sumT_le (by omega)) (Nat.le_add_right _ _)
theorem sumT_b {f : Nat → Nat} {k : Nat} (hf : ∀ i, f i ≤ k) : ∀ n, sumT f n ≤ k * n
  | 0 => Nat.le_refl _
  | n + 1 => by
    have := sumT_b hf n
    have := hf n
    rw [Nat.mul_succ]
    show sumT f n + f n ≤ k * n + k
    omega
theorem wdN_b (v : Nat) : 1 ≤ wdN v ∧ wdN v ≤ 5 := by
  unfold wdN
  by_cases c1 : v < 10
  · rw [if_pos c1]; decide
  · rw [if_neg c1]
    by_cases c2 : v < 100
    · rw [if_pos c2]; decide
    · rw [if_neg c2]
      by_cases c3 : v < 1000
      · rw [if_pos c3]; decide
      · rw [if_neg c3]
        by_cases c4 : v < 10000
        · rw [if_pos c4]; decide
        · rw [if_neg c4]; decide
theorem wdN_1 {v : Nat} (h : v < 10) : wdN v = 1 := if_pos h
/-- what the map reads: the sections in order, the names in order -/
def MPs (σ : px_S) (nS nD : Nat) (zf uf gf ff mf lf df : Nat → Nat) : Prop := (nS ≤ 1536 ∧ gI σ 50 = nI nS ∧ ∀ p, p < nS → gA σ 56 p = nI (zf p) ∧ zf p ≤ 99999 ∧ gA σ 54 p = nI (uf p) ∧ uf p ≤ 99999 ∧ gA σ 55 p = nI (gf p) ∧ gf p < 10 ∧ gA σ 52 p = nI (ff p) ∧ ff p < 10 ∧ gA σ 53 p = nI (mf p) ∧ mf p < 10) ∧ nD ≤ 4096 ∧ gI σ 48 = nI nD ∧ ∀ i, i < nD → gA σ 49 i = nI (df i) ∧ df i < 4096 ∧ gA σ 22 (df i) = nI (lf i) ∧ lf i ≤ 20
section MMP
variable {F m : Nat} {h : px_H} {σ0 σ : px_S} {c nS nD : Nat} {zf uf gf ff mf lf df : Nat → Nat}
theorem MPs_O (hM : MPs σ0 nS nD zf uf gf ff mf lf df) (hI : OWi σ0 σ c) : MPs σ nS nD zf uf gf ff mf lf df := by
  obtain ⟨⟨h1, h2, h3⟩, h4, h5, h6⟩ := hM
  have a : ∀ k, k ≠ 3 → gA σ k = gA σ0 k := fun k hk => hI.1.2.2.1 k (by simpa using hk)
  refine ⟨⟨h1, (hI.1.1 50 (by decide)).trans h2, fun p hp => ?_⟩, h4, (hI.1.1 48 (by decide)).trans h5, fun i hi => ?_⟩
  · rw [a 56 (by decide), a 54 (by decide), a 55 (by decide), a 52 (by decide), a 53 (by decide)]; exact h3 p hp
  · rw [a 49 (by decide), a 22 (by decide)]; exact h6 i hi
theorem sm_mp_291 {k234 : Nat → Int32 → px_H → Option (Int32 × px_H)} {i d l c0 : Nat} (hm : m ≤ h.length) (hd : d < 4096) (hl : l ≤ 20) (e22 : gA σ0 22 d = nI l) (hc : c0 + l + 1 ≤ 65536) (hK : ∀ σ, OWi σ0 σ (c0 + l + 1) → Sm m h (OWe σ0) Any (k234 m (nI (i + 1)) (mh m h σ))) : ∀ (e j f : Nat) (σ : px_S), j + e = l → e < f → OWi σ0 σ (c0 + j) → Sm m h (OWe σ0) Any (f_M_map_291 F k234 f m (nI i) (nI d) (nI j) (mh m h σ)) := by
  intro e
  induction e with
  | zero =>
    intro j f σ hj hf hI
    obtain ⟨f, rfl⟩ : ∃ y, f = y + 1 := ⟨f - 1, by omega⟩
    obtain rfl : j = l := by omega
    have g22 : gA σ 22 = gA σ0 22 := hI.1.2.2.1 22 (by decide)
    unfold f_M_map_291 f_M_map_339
    rw [Mr22 hm, bs, Ma22 hm hd, bs, g22, e22, if_pos (nI_le (by omega) (by omega)), Mr3 hm, bs, Mg4 hm, bs, hI.2.1, nI_add]
    refine sm_w3 hm hI (by omega) (fun σ hi => ?_)
    rw [Mg4 hm, bs, hi.2.1, nI_add]
    exact sm_p4 hm hi (fun σ hi => hK σ hi)
  | succ e ih =>
    intro j f σ hj hf hI
    obtain ⟨f, rfl⟩ : ∃ y, f = y + 1 := ⟨f - 1, by omega⟩
    have g22 : gA σ 22 = gA σ0 22 := hI.1.2.2.1 22 (by decide)
    unfold f_M_map_291
    rw [Mr22 hm, bs, Ma22 hm hd, bs, g22, e22, if_neg (nI_ge (by omega) (by omega)), Mr3 hm, bs, Mg4 hm, bs, hI.2.1, Mr21 hm, bs, show nI 20 * nI d = nI (20 * d) from (Int32.ofNat_mul 20 d).symm, nI_add, Ma21 hm (by omega), bs, nI_add]
    refine sm_w3 hm hI (by omega) (fun σ hi => ?_)
    rw [Mg4 hm, bs, hi.2.1, nI_add, Nat.add_assoc]
    exact sm_p4 hm hi (fun σ hi => ih (j + 1) f σ (by omega) (by omega) hi)
theorem sm_mp_234 {T : Nat} (hm : m ≤ h.length) (hF : 65540 < F) (hM : MPs σ0 nS nD zf uf gf ff mf lf df) (hT : T + sumT (fun i => 18 + lf i) nD ≤ 65536) : ∀ (d j f : Nat) (σ : px_S), j + d = nD → d < f → OWi σ0 σ (T + sumT (fun i => 18 + lf i) j) → Sm m h (OWe σ0) Any (f_M_map_234 F f m (nI j) (mh m h σ)) := by
  have hN := hM.2.1
  intro d
  induction d with
  | zero =>
    intro j f σ hj hf hI
    obtain ⟨f, rfl⟩ : ∃ y, f = y + 1 := ⟨f - 1, by omega⟩
    obtain rfl : j = nD := by omega
    unfold f_M_map_234 f_M_map_366
    rw [Mg48 hm, bs, (MPs_O hM hI).2.2.1, if_pos (nI_le (by omega) (by omega)), Mg4 hm, bs]
    exact sm_r any ⟨_, hT, hI⟩
  | succ d ih =>
    intro j f σ hj hf hI
    obtain ⟨f, rfl⟩ : ∃ y, f = y + 1 := ⟨f - 1, by omega⟩
    obtain ⟨e49, hd, e22, hl⟩ := hM.2.2.2 j (by omega)
    have g49 : gA σ 49 = gA σ0 49 := hI.1.2.2.1 49 (by decide)
    have hle := sumT_le (f := fun i => 18 + lf i) (show j + 1 ≤ nD by omega)
    have es : sumT (fun i => 18 + lf i) (j + 1) = sumT (fun i => 18 + lf i) j + (18 + lf j) := rfl
    unfold f_M_map_234
    rw [Mg48 hm, bs, (MPs_O hM hI).2.2.1, if_neg (nI_ge (by omega) (by omega)), Mr49 hm, bs, Ma49 hm (by omega), bs, g49, e49, Mg4 hm, bs, hI.2.1, Mr29 hm, bs, Ma29 hm hd, bs]
    generalize sumT (fun i => 18 + lf i) j = S at *
    refine sm_o hm (fun _ => sm_x (sm_16_3 (F := F) (p := T + S) hm (by omega) 16 0 F σ rfl (by omega) hI) (fun _ σ _ hi => ?_))
    rw [Mr3 hm, bs, Mg4 hm, bs, hi.2.1, nI_add]
    refine sm_w3 hm hi (by omega) (fun σ hi => ?_)
    rw [Mg4 hm, bs, hi.2.1, nI_add]
    refine sm_p4 hm hi (fun σ hi => ?_)
    exact sm_mp_291 (c0 := T + S + 17) (l := lf j) hm hd hl e22 (by omega) (fun σ hi => ih (j + 1) f σ (by omega) (by omega) (by rw [es]; rw [show T + (S + (18 + lf j)) = T + S + 17 + lf j + 1 by omega]; exact hi)) (lf j) 0 F σ (Nat.zero_add _) (by omega) hi
end MMP
end
section
/-! the reference's map, whole: safe (steps spelled out by sf/pp.py) -/
theorem sumT_b' {f : Nat → Nat} {k : Nat} : ∀ {n : Nat}, (∀ i, i < n → f i ≤ k) → sumT f n ≤ k * n
  | 0, _ => Nat.le_refl _
  | n + 1, hf => by
    have h1 := sumT_b' (n := n) (fun i hi => hf i (by omega))
    have h2 := hf n (by omega)
    rw [Nat.mul_succ]
    show sumT f n + f n ≤ k * n + k
    omega
section MMQ
variable {F m : Nat} {h : px_H} {σ0 σ : px_S} {c nS nD : Nat} {zf uf gf ff mf lf df : Nat → Nat}
theorem sm_mp_119 (hm : m ≤ h.length) (hF : 65540 < F) (hM : MPs σ0 nS nD zf uf gf ff mf lf df) (hT : sumT (fun p => 25 + wdN (zf p) + wdN (uf p)) nS + sumT (fun i => 18 + lf i) nD ≤ 65536) : ∀ (d j f : Nat) (σ : px_S), j + d = nS → d < f → OWi σ0 σ (sumT (fun p => 25 + wdN (zf p) + wdN (uf p)) j) → Sm m h (OWe σ0) Any (f_M_map_119 F f m (nI j) (mh m h σ)) := by
  have hN := hM.1.1
  have hN2 := hM.2.1
  intro d
  induction d with
  | zero =>
    intro j f σ hj hf hI
    obtain ⟨f, rfl⟩ : ∃ y, f = y + 1 := ⟨f - 1, by omega⟩
    obtain rfl : j = nS := by omega
    unfold f_M_map_119 f_M_map_232
    rw [Mg50 hm, bs, (MPs_O hM hI).1.2.1, if_pos (nI_le (by omega) (by omega))]
    exact sm_mp_234 hm hF hM hT nD 0 F σ (Nat.zero_add _) (by omega) hI
  | succ d ih =>
    intro j f σ hj hf hI
    obtain ⟨f, rfl⟩ : ∃ y, f = y + 1 := ⟨f - 1, by omega⟩
    have hj1 : j < 1536 := by omega
    have hle := sumT_le (f := fun p => 25 + wdN (zf p) + wdN (uf p)) (show j + 1 ≤ nS by omega)
    have es : sumT (fun p => 25 + wdN (zf p) + wdN (uf p)) (j + 1) = sumT (fun p => 25 + wdN (zf p) + wdN (uf p)) j + (25 + wdN (zf j) + wdN (uf j)) := rfl
    unfold f_M_map_119
    rw [Mg50 hm, bs, (MPs_O hM hI).1.2.1, if_neg (nI_ge (by omega) (by omega)), Mg4 hm, bs, hI.2.1, Mr57 hm, bs, Ma57 hm hj1, bs, nI_add]
    generalize sumT (fun p => 25 + wdN (zf p) + wdN (uf p)) j = S at *
    generalize sumT (fun p => 25 + wdN (zf p) + wdN (uf p)) nS = SS at *
    have wz := wdN_b (zf j)
    have wu := wdN_b (uf j)
    refine sm_o hm (fun _ => sm_x (sm_16_3 (F := F) (p := S) hm (by omega) 16 0 F σ rfl (by omega) hI) (fun _ σ _ hi => ?_))
    rw [Mr3 hm, bs, Mg4 hm, bs, hi.2.1, nI_add]
    refine sm_w3 hm hi (by omega) (fun σ hi => ?_)
    rw [Mg4 hm, bs, hi.2.1, nI_add]
    refine sm_p4 hm hi (fun σ hi => ?_)
    obtain ⟨z1, z2, _⟩ := (MPs_O hM hi).1.2.2 j (by omega)
    rw [Mr56 hm, bs, Ma56 hm hj1, bs, z1]
    refine sm_o hm (fun _ => sm_x (sm_sayN hm hF z2 (by omega) hi) (fun _ σ _ hi => ?_))
    obtain ⟨_, _, _, _, g1, g2, _⟩ := (MPs_O hM hi).1.2.2 j (by omega)
    rw [Mr55 hm, bs, Ma55 hm hj1, bs, g1]
    refine sm_o hm (fun _ => sm_x (sm_sayN hm hF (by omega) (by rw [wdN_1 g2]; omega) hi) (fun _ σ _ hi => ?_))
    obtain ⟨_, _, _, _, _, _, f1, f2, _⟩ := (MPs_O hM hi).1.2.2 j (by omega)
    rw [wdN_1 g2] at hi
    rw [Mr52 hm, bs, Ma52 hm hj1, bs, f1]
    refine sm_o hm (fun _ => sm_x (sm_sayN hm hF (by omega) (by rw [wdN_1 f2]; omega) hi) (fun _ σ _ hi => ?_))
    obtain ⟨_, _, _, _, _, _, _, _, m1, m2⟩ := (MPs_O hM hi).1.2.2 j (by omega)
    rw [wdN_1 f2] at hi
    rw [Mr53 hm, bs, Ma53 hm hj1, bs, m1]
    refine sm_o hm (fun _ => sm_x (sm_sayN hm hF (by omega) (by rw [wdN_1 m2]; omega) hi) (fun _ σ _ hi => ?_))
    obtain ⟨_, _, u1, u2, _⟩ := (MPs_O hM hi).1.2.2 j (by omega)
    rw [wdN_1 m2] at hi
    rw [Mr54 hm, bs, Ma54 hm hj1, bs, u1]
    refine sm_o hm (fun _ => sm_x (sm_sayN hm hF u2 (by omega) hi) (fun _ σ _ hi => ?_))
    refine ih (j + 1) f σ (by omega) (by omega) ?_
    rw [es, show S + (25 + wdN (zf j) + wdN (uf j)) = S + 17 + wdN (zf j) + 1 + 1 + 1 + 1 + 1 + 1 + 1 + wdN (uf j) + 1 by omega]
    exact hi
theorem sm_mp_73 {T : Nat} (hm : m ≤ h.length) (hF : 65540 < F) (ho : OUo σ0) (hM : MPs σ0 nS nD zf uf gf ff mf lf df) (eT : T = sumT (fun p => 25 + wdN (zf p) + wdN (uf p)) nS) (hTb : T ≤ 53760) (hf0 : FR [0] [] [] [] σ0 σ) : ∀ (d j f : Nat), j + d = nD → d < f → Sm m h (OWe σ0) Any (f_M_map_73 F f m (nI (T + sumT (fun i => 18 + lf i) j)) (nI j) (mh m h σ)) := by
  have hN := hM.1.1
  have hN2 := hM.2.1
  obtain ⟨co, hco, hO⟩ := OWe_0 ho hf0
  have hMs := MPs_O hM hO
  intro d
  induction d with
  | zero =>
    intro j f hj hf
    obtain ⟨f, rfl⟩ : ∃ y, f = y + 1 := ⟨f - 1, by omega⟩
    obtain rfl : j = nD := by omega
    unfold f_M_map_73 f_M_map_104
    rw [Mg48 hm, bs, hMs.2.2.1, if_pos (nI_le (by omega) (by omega))]
    have hB := sumT_b' (f := fun i => 18 + lf i) (k := 38) (n := j) (fun i hi => by have := (hM.2.2.2 i hi).2.2.2; show 18 + lf i ≤ 38; omega)
    by_cases hle : T + sumT (fun i => 18 + lf i) j ≤ 65536
    · rw [if_pos (show nI (T + sumT (fun i => 18 + lf i) j) ≤ (65536 : Int32) from nI_le hle (by decide)), Mp4 hm, bs]
      exact sm_mp_119 hm hF hM (by rw [← eT]; exact hle) nS 0 F _ (Nat.zero_add _) (by omega) (OWi_p hO)
    · rw [if_neg (show ¬ nI (T + sumT (fun i => 18 + lf i) j) ≤ (65536 : Int32) from nI_ge (a := 65536) (by omega) (by omega))]
      exact sm_r any ⟨co, hco, hO⟩
  | succ d ih =>
    intro j f hj hf
    obtain ⟨f, rfl⟩ : ∃ y, f = y + 1 := ⟨f - 1, by omega⟩
    obtain ⟨e49, hd, e22, hl⟩ := hMs.2.2.2 j (by omega)
    have es : sumT (fun i => 18 + lf i) (j + 1) = sumT (fun i => 18 + lf i) j + (18 + lf j) := rfl
    have go := ih (j + 1) f (by omega) (by omega)
    unfold f_M_map_73
    rw [Mg48 hm, bs, hMs.2.2.1, if_neg (nI_ge (by omega) (by omega)), Mr22 hm, bs, Mr49 hm, bs, Ma49 hm (by omega), bs, e49, Ma22 hm hd, bs, e22, nI_add, nI_add, nI_add, Nat.add_assoc, ← es]
    exact go
theorem sm_mp_26 (hm : m ≤ h.length) (hF : 65540 < F) (ho : OUo σ0) (hM : MPs σ0 nS nD zf uf gf ff mf lf df) (hf0 : FR [0] [] [] [] σ0 σ) : ∀ (d j f : Nat), j + d = nS → d < f → Sm m h (OWe σ0) Any (f_M_map_26 F f m (nI (sumT (fun p => 25 + wdN (zf p) + wdN (uf p)) j)) (nI j) (mh m h σ)) := by
  have hN := hM.1.1
  have hN2 := hM.2.1
  obtain ⟨co, hco, hO⟩ := OWe_0 ho hf0
  have hMs := MPs_O hM hO
  intro d
  induction d with
  | zero =>
    intro j f hj hf
    obtain ⟨f, rfl⟩ : ∃ y, f = y + 1 := ⟨f - 1, by omega⟩
    obtain rfl : j = nS := by omega
    have hB := sumT_b' (f := fun p => 25 + wdN (zf p) + wdN (uf p)) (k := 35) (n := j) (fun i hi => by have w1 := (wdN_b (zf i)).2; have w2 := (wdN_b (uf i)).2; show 25 + wdN (zf i) + wdN (uf i) ≤ 35; omega)
    unfold f_M_map_26 f_M_map_71
    rw [Mg50 hm, bs, hMs.1.2.1, if_pos (nI_le (by omega) (by omega))]
    exact sm_mp_73 hm hF ho hM rfl (by omega) hf0 nD 0 F (Nat.zero_add _) (by omega)
  | succ d ih =>
    intro j f hj hf
    obtain ⟨f, rfl⟩ : ∃ y, f = y + 1 := ⟨f - 1, by omega⟩
    obtain ⟨z1, z2, u1, u2, _⟩ := hMs.1.2.2 j (by omega)
    have es : sumT (fun p => 25 + wdN (zf p) + wdN (uf p)) (j + 1) = sumT (fun p => 25 + wdN (zf p) + wdN (uf p)) j + (25 + wdN (zf j) + wdN (uf j)) := rfl
    have go := ih (j + 1) f (by omega) (by omega)
    rw [es, show 25 + wdN (zf j) + wdN (uf j) = 22 + wdN (zf j) + wdN (uf j) + 1 + 1 + 1 by omega] at go
    unfold f_M_map_26
    rw [Mg50 hm, bs, hMs.1.2.1, if_neg (nI_ge (by omega) (by omega)), Mr56 hm, bs, Ma56 hm (by omega), bs, z1, q_wide (by omega), xb_mk, Mr54 hm, bs, Ma54 hm (by omega), bs, u1, q_wide (by omega), xb_mk, nI_add, nI_add, nI_add, nI_add, nI_add, nI_add, nI_add]
    exact go
theorem sm_map (hm : m ≤ h.length) (hF : 65540 < F) (ho : OUo σ0) (hM : gI σ0 13 = 0 → MPs σ0 nS nD zf uf gf ff mf lf df) : Sm m h (OWe σ0) Any (f_M_map F m (mh m h σ0)) := by
  unfold f_M_map f_M_map_13
  refine sm_gI hm rfl (sm_i (fun h13 => ?_) (fun _ => ?_))
  · refine sm_o hm (fun _ => sm_t0 (σ0 := σ0) hm (FR_refl _) (fun σ hi => sm_i (fun _ => ?_) (fun hc => absurd rfl hc)))
    have hN := (hM h13).1.1
    exact sm_mp_26 hm hF ho (hM h13) hi nS 0 F (Nat.zero_add _) (by omega)
  · exact sm_o hm (fun _ => sm_tA (σ0 := σ0) hm (FR_refl _) (fun σ hi => sm_i (fun hc => absurd hc (by decide)) (fun _ => sm_r any (OWe_0 ho hi))))
end MMQ
end
section
/-! the reference packs: its small parts (steps spelled out by sf/pp.py) -/
section MPK
variable {F m : Nat} {h : px_H} {σ0 σ : px_S} {c : Nat}
theorem sm_high {p : Nat} {v : Int32} (hm : m ≤ h.length) (hp : p + 4 ≤ 65536) : ∀ (d j f : Nat) (σ : px_S), j + d = 4 → d < f → OWi σ0 σ c → Sm m h (fun σ' => OWi σ0 σ' c) Any (f_M_highFirst_2 F f m (nI p) v (nI j) (mh m h σ)) := by
  intro d
  induction d with
  | zero =>
    intro j f σ hj hf hI
    obtain ⟨f, rfl⟩ : ∃ y, f = y + 1 := ⟨f - 1, by omega⟩
    unfold f_M_highFirst_2 f_M_highFirst_31
    rw [if_pos (nI_le (by omega) (by omega))]
    exact sm_r any hI
  | succ d ih =>
    intro j f σ hj hf hI
    obtain ⟨f, rfl⟩ : ∃ y, f = y + 1 := ⟨f - 1, by omega⟩
    unfold f_M_highFirst_2
    rw [if_neg (nI_ge (by omega) (by omega)), Mr3 hm, bs, nI_add, nI_add]
    exact sm_w3 hm hI (by omega) (fun σ hi => ih _ _ _ (by omega) (by omega) hi)
theorem sm_ahead_2 {p v : Nat} (hm : m ≤ h.length) (hF : 65540 < F) (hv : v ≤ 99999) (hp : p + 60 ≤ 65536) : ∀ (d j f : Nat) (σ : px_S), j + d = 58 → d < f → OWi σ0 σ c → Sm m h (fun σ' => OWi σ0 σ' c) Any (f_M_ahead_2 F f m (nI p) (nI v) (nI j) (mh m h σ)) := by
  have hw := wdN_b v
  intro d
  induction d with
  | zero =>
    intro j f σ hj hf hI
    obtain ⟨f, rfl⟩ : ∃ y, f = y + 1 := ⟨f - 1, by omega⟩
    unfold f_M_ahead_2 f_M_ahead_24 f_M_digits
    rw [if_pos (nI_le (by omega) (by omega)), nI_add, nI_add, nI_add]
    refine sm_o hm (fun _ => sm_x (sm_dg_2 (F := F) (p := p + 48) (v := v) hm hF hv (by omega) hI 4 0 F rfl (by omega) (Or.inr rfl)) (fun _ σ _ hi => ?_))
    rw [Mr3 hm, bs]
    refine sm_w3 hm hi (by omega) (fun σ hi => ?_)
    rw [Mr3 hm, bs]
    exact sm_w3 hm hi (by omega) (fun σ hi => sm_r any hi)
  | succ d ih =>
    intro j f σ hj hf hI
    obtain ⟨f, rfl⟩ : ∃ y, f = y + 1 := ⟨f - 1, by omega⟩
    unfold f_M_ahead_2
    rw [if_neg (nI_ge (by omega) (by omega)), Mr3 hm, bs, nI_add, nI_add]
    exact sm_w3 hm hI (by omega) (fun σ hi => ih _ _ _ (by omega) (by omega) hi)
end MPK
end
section
/-! the reference packs: the objects that are there (steps spelled out by sf/pp.py) -/
/-- c objects were found -/
def FOi (fs : px_FS) (σ0 σ : px_S) (c : Nat) : Prop := FR [0, 127] [] [128, 129] [] σ0 σ ∧ gI σ 127 = nI c ∧ ∀ i, i < c → ∃ q o n b, obAt fs q = some (o, n, b, false) ∧ gA σ 128 i = nI o ∧ gA σ 129 i = nI n
section MFO
variable {F m : Nat} {h : px_H} {σ0 σ : px_S} {fs : px_FS} {c : Nat}
theorem FOi_R (hr : RF σ0 fs) (hI : FOi fs σ0 σ c) : RF σ fs := RF_FR hr hI.1 (by decide) (by decide)
theorem FOi_1 {o n q : Nat} {b : Nat → Nat} (hI : FOi fs σ0 σ c) (hob : obAt fs q = some (o, n, b, false)) : FOi fs σ0 (sI (sA (sA σ 128 (upd (gA σ 128) c (nI o))) 129 (upd (gA σ 129) c (nI n))) 127 (nI (c + 1))) (c + 1) := by
  obtain ⟨hf, ec, ht⟩ := hI
  refine ⟨FR_trans (FR_trans (FR_trans hf (FR_mono (FR_A _ _ _) (by decide) (by decide) (by decide) (by decide))) (FR_mono (FR_A _ _ _) (by decide) (by decide) (by decide) (by decide))) (FR_mono (FR_I _ _ _) (by decide) (by decide) (by decide) (by decide)), by rw [gI_sI, if_pos rfl], fun i hi => ?_⟩
  simp only [gA_sI, gA_sA]
  by_cases e : i = c
  · subst e
    exact ⟨q, o, n, b, hob, by simp [upd], by simp [upd]⟩
  · obtain ⟨q', o', n', b', e1, e2, e3⟩ := ht i (by omega)
    exact ⟨q', o', n', b', e1, by simp [upd, e, e2], by simp [upd, e, e3]⟩
theorem sm_fo_17 {k7 : Nat → Int32 → px_H → Option (Unit × px_H)} {i l : Nat} (hm : m ≤ h.length) (hr : RF σ0 fs) (hi : i < fs.length) (hl : l ≤ 8) (el : gA σ0 8 i = nI l) (hK : ∀ σ c, c ≤ 8 * (i + 1) → FOi fs σ0 σ c → Sm m h (fun σ' => ∃ c, c ≤ 64 ∧ FOi fs σ0 σ' c) Any (k7 m (nI (i + 1)) (mh m h σ))) : ∀ (d k f c : Nat) (σ : px_S), k + d = l → d < f → c ≤ 8 * i + k → FOi fs σ0 σ c → Sm m h (fun σ' => ∃ c, c ≤ 64 ∧ FOi fs σ0 σ' c) Any (f_M_findObjects_17 F k7 f m (nI i) (nI k) (mh m h σ)) := by
  have h8 := hr.2.1
  have i8 : i < 8 := by omega
  intro d
  induction d with
  | zero =>
    intro k f c σ hk hf hc hI
    obtain ⟨f, rfl⟩ : ∃ y, f = y + 1 := ⟨f - 1, by omega⟩
    have g8 : gA σ 8 = gA σ0 8 := hI.1.2.2.1 8 (by decide)
    unfold f_M_findObjects_17 f_M_findObjects_100
    rw [Mr8 hm, bs, Ma8 hm i8, bs, g8, el, if_pos (nI_le (by omega) (by omega)), nI_add]
    exact hK σ c (by omega) hI
  | succ d ih =>
    intro k f c σ hk hf hc hI
    obtain ⟨f, rfl⟩ : ∃ y, f = y + 1 := ⟨f - 1, by omega⟩
    have g8 : gA σ 8 = gA σ0 8 := hI.1.2.2.1 8 (by decide)
    have hq : 8 * i + k < 64 := by omega
    have hR := FOi_R hr hI
    obtain ⟨o, n, b, sk, hob⟩ := mem_ob (k := k) hR hi ⟨l, by rw [g8]; exact el, hl, by omega⟩
    obtain ⟨q1, q2, q3, q4, q5, q6, q7⟩ := RF_ob hR hob
    unfold f_M_findObjects_17 f_M_findObjects_94
    rw [Mr8 hm, bs, Ma8 hm i8, bs, g8, el, if_neg (nI_ge (by omega) (by omega)), Mr12 hm, bs, ix8, Ma12 hm hq, bs, q4, nI_add]
    cases sk with
    | true =>
      rw [if_neg (show ¬ bI true = 0 by decide)]
      exact ih _ _ _ _ (by omega) (by omega) (by omega) hI
    | false =>
      rw [if_pos (show bI false = 0 from rfl), Mr128 hm, bs, Mg127 hm, bs, hI.2.1, Mr9 hm, bs, Ma9 hm hq, bs, q2, Ms128 hm (by omega), bs, Mr129 hm, bs, Mg127 hm, bs, gI_sA, hI.2.1, Mr10 hm, bs, Ma10 hm hq, bs, gA_sA, if_neg (show ¬ 10 = 128 by decide), q3, Ms129 hm (by omega), bs, Mg127 hm, bs, gI_sA, gI_sA, hI.2.1, nI_add, Mp127 hm, bs]
      exact ih _ _ (c + 1) _ (by omega) (by omega) (by omega) (FOi_1 hI hob)
theorem sm_fo_7 (hm : m ≤ h.length) (hF : 65540 < F) (hr : RF σ0 fs) : ∀ (d i f c : Nat) (σ : px_S), i + d = fs.length → d < f → c ≤ 8 * i → FOi fs σ0 σ c → Sm m h (fun σ' => ∃ c, c ≤ 64 ∧ FOi fs σ0 σ' c) Any (f_M_findObjects_7 F f m (nI i) (mh m h σ)) := by
  have h8 := hr.2.1
  intro d
  induction d with
  | zero =>
    intro i f c σ hi hf hc hI
    obtain ⟨f, rfl⟩ : ∃ y, f = y + 1 := ⟨f - 1, by omega⟩
    unfold f_M_findObjects_7 f_M_findObjects_106
    rw [Mg5 hm, bs, (FOi_R hr hI).1, if_pos (nI_le (by omega) (by omega))]
    exact sm_r any ⟨c, by omega, hI⟩
  | succ d ih =>
    intro i f c σ hi hf hc hI
    obtain ⟨f, rfl⟩ : ∃ y, f = y + 1 := ⟨f - 1, by omega⟩
    obtain ⟨l, hl, el⟩ := RF_8 hr (show i < fs.length by omega)
    unfold f_M_findObjects_7
    rw [Mg5 hm, bs, (FOi_R hr hI).1, if_neg (nI_ge (by omega) (by omega))]
    exact sm_fo_17 hm hr (by omega) hl el (fun σ c hc hI => ih _ _ _ _ (by omega) (by omega) hc hI) l 0 F c σ (Nat.zero_add _) (by omega) (by omega) hI
theorem sm_fo (hm : m ≤ h.length) (hF : 65540 < F) (hr : RF σ0 fs) : Sm m h (fun σ' => ∃ c, c ≤ 64 ∧ FOi fs σ0 σ' c) Any (f_M_findObjects F m (mh m h σ0)) := by
  unfold f_M_findObjects
  rw [Mp127 hm, bs]
  exact sm_fo_7 hm hF hr fs.length 0 F 0 _ (Nat.zero_add _) (by have := hr.2.1; omega) (by omega) ⟨FR_mono (FR_I _ _ _) (by decide) (by decide) (by decide) (by decide), by rw [gI_sI, if_pos rfl], fun i hi => absurd hi (Nat.not_lt_zero i)⟩
end MFO
end
section
/-! the reference packs: it writes (steps spelled out by sf/pp.py) -/
/-- what pack reads of an object -/
def PKo (F m : Nat) (h : px_H) (B : Nat → Int32) (o n M : Nat) (D : Nat → Bool) (A E : Nat → Nat) : Prop := M ≤ 64 ∧ o + n ≤ 65536 ∧ (∀ σ, gA σ 6 = B → f_M_symbolMany F m (nI o) (mh m h σ) = some (nI M, mh m h σ)) ∧ ∀ k, 1 ≤ k → k < M → (∀ σ, gA σ 6 = B → f_M_isDefining F m (nI o) (nI k) (mh m h σ) = some (bI (D k), mh m h σ)) ∧ (D k = true → A k ≤ E k ∧ E k < 65536 ∧ ∀ σ, gA σ 6 = B → f_M_nameAt F m (nI o) (nI k) (mh m h σ) = some (nI (A k), mh m h σ) ∧ f_M_nameEnd F m (nI o) (nI k) (mh m h σ) = some (nI (E k), mh m h σ))
def pkN (D : Nat → Bool) (k : Nat) : Nat := if k = 0 then 0 else if D k = true then 1 else 0
def pkL (D : Nat → Bool) (A E : Nat → Nat) (k : Nat) : Nat := if k = 0 then 0 else if D k = true then E k - A k + 1 else 0
def pkM (M : Nat) : Nat := if M = 0 then 1 else M
def pkZ (n : Nat) : Nat := 60 + n + n % 2
theorem pkM_1 (M : Nat) : 1 ≤ pkM M ∧ M ≤ pkM M ∧ ∀ k, 1 ≤ k → k < pkM M → k < M := by
  unfold pkM
  by_cases c : M = 0
  · rw [if_pos c]; exact ⟨Nat.le_refl _, by omega, fun k h1 h2 => by omega⟩
  · rw [if_neg c]; exact ⟨by omega, Nat.le_refl _, fun k h1 h2 => h2⟩
theorem pkN_f {D : Nat → Bool} {k : Nat} (h : D k = false) : pkN D k = 0 := by
  unfold pkN
  by_cases c : k = 0
  · rw [if_pos c]
  · rw [if_neg c, if_neg (by rw [h]; decide)]
theorem pkN_t {D : Nat → Bool} {k : Nat} (h1 : 1 ≤ k) (h : D k = true) : pkN D k = 1 := by
  unfold pkN
  rw [if_neg (by omega), if_pos h]
theorem pkL_f {D : Nat → Bool} {A E : Nat → Nat} {k : Nat} (h : D k = false) : pkL D A E k = 0 := by
  unfold pkL
  by_cases c : k = 0
  · rw [if_pos c]
  · rw [if_neg c, if_neg (by rw [h]; decide)]
theorem pkL_t {D : Nat → Bool} {A E : Nat → Nat} {k : Nat} (h1 : 1 ≤ k) (h : D k = true) : pkL D A E k = E k - A k + 1 := by
  unfold pkL
  rw [if_neg (by omega), if_pos h]
theorem nI_m2 {n : Nat} (h : n < 2 ^ 30) : nI n - nI n / nI 2 * nI 2 = nI (n % 2) := by
  rw [nI_divG h (by decide), show nI (n / 2) * nI 2 = nI (n / 2 * 2) from (Int32.ofNat_mul _ _).symm, pk_sub (by omega)]
  congr 1
  omega
section MPW
variable {F m : Nat} {h : px_H} {σ0 σ : px_S} {c o n M T i : Nat} {D : Nat → Bool} {A E : Nat → Nat} {I : px_S → Prop}
theorem sm_pk339 {k272 : Nat → Int32 → Int32 → Int32 → Int32 → Int32 → px_H → Option (Int32 × px_H)} {k293 : Nat → Int32 → Int32 → Int32 → Int32 → Int32 → Int32 → Int32 → px_H → Option (Int32 × px_H)} {k p5 p7 q6 : Nat} (hm : m ≤ h.length) (hP : PKo F m h (gA σ0 6) o n M D A E) (h1 : 1 ≤ k) (hk : k < M) (hD : D k = true) (hq : q6 ≤ 65536) (hK : ∀ σ, OWi σ0 σ c → Sm m h I Any (k293 m (nI T) (nI p5) (nI q6) (nI p7) (nI i) (nI o) (nI (k + 1)) (mh m h σ))) : ∀ (d j f p6 : Nat) (σ : px_S), j + d = E k → d < f → p6 + d + 1 = q6 → OWi σ0 σ c → Sm m h I Any (f_M_pack_339 F k272 k293 f m (nI T) (nI p5) (nI p6) (nI p7) (nI i) (nI o) (nI k) (nI j) (mh m h σ)) := by
  obtain ⟨e1, e2, e3⟩ := (hP.2.2.2 k h1 hk).2 hD
  intro d
  induction d with
  | zero =>
    intro j f p6 σ hj hf hp hI
    obtain ⟨f, rfl⟩ : ∃ y, f = y + 1 := ⟨f - 1, by omega⟩
    unfold f_M_pack_339 f_M_pack_375 f_M_pack_378
    rw [e_o hm, bs, (e3 σ (OWi_6 hI)).2, xb_mk, if_pos (nI_le (by omega) (by omega)), nI_add, nI_add]
    obtain rfl : p6 + 1 = q6 := by omega
    exact hK σ hI
  | succ d ih =>
    intro j f p6 σ hj hf hp hI
    obtain ⟨f, rfl⟩ : ∃ y, f = y + 1 := ⟨f - 1, by omega⟩
    unfold f_M_pack_339
    rw [e_o hm, bs, (e3 σ (OWi_6 hI)).2, xb_mk, if_neg (nI_ge (by omega) (by omega)), Mr3 hm, bs, Mr6 hm, bs, Ma6 hm (by omega), bs, nI_add, nI_add]
    exact sm_w3 hm hI (by omega) (fun σ hi => ih (j + 1) f (p6 + 1) σ (by omega) (by omega) (by omega) hi)
theorem sm_pk293 {k272 : Nat → Int32 → Int32 → Int32 → Int32 → Int32 → px_H → Option (Int32 × px_H)} {P5 P6 p7 : Nat} (hm : m ≤ h.length) (hF : 65540 < F) (hP : PKo F m h (gA σ0 6) o n M D A E) (hq5 : P5 + 4 * sumT (pkN D) (pkM M) ≤ 65536) (hq6 : P6 + sumT (pkL D A E) (pkM M) ≤ 65536) (hK : ∀ σ, OWi σ0 σ c → Sm m h I Any (f_M_pack_384 F k272 m (nI T) (nI (P5 + 4 * sumT (pkN D) (pkM M))) (nI (P6 + sumT (pkL D A E) (pkM M))) (nI p7) (nI i) (nI o) (mh m h σ))) : ∀ (d k f : Nat) (σ : px_S), k + d = pkM M → 1 ≤ k → d < f → OWi σ0 σ c → Sm m h I Any (f_M_pack_293 F k272 f m (nI T) (nI (P5 + 4 * sumT (pkN D) k)) (nI (P6 + sumT (pkL D A E) k)) (nI p7) (nI i) (nI o) (nI k) (mh m h σ)) := by
  obtain ⟨m1, m2, m3⟩ := pkM_1 M
  have hM := hP.1
  have hMx : pkM M ≤ 64 := by unfold pkM; split <;> omega
  intro d
  induction d with
  | zero =>
    intro k f σ hk h1 hf hI
    obtain ⟨f, rfl⟩ : ∃ y, f = y + 1 := ⟨f - 1, by omega⟩
    obtain rfl : k = pkM M := by omega
    unfold f_M_pack_293
    rw [e_o hm, bs, hP.2.2.1 σ (OWi_6 hI), xb_mk, if_pos (nI_le (by omega) (by omega))]
    exact hK σ hI
  | succ d ih =>
    intro k f σ hk h1 hf hI
    obtain ⟨f, rfl⟩ : ∃ y, f = y + 1 := ⟨f - 1, by omega⟩
    have hkM := m3 k h1 (by omega)
    obtain ⟨r1, r2⟩ := hP.2.2.2 k h1 hkM
    have s5 := sumT_le (f := pkN D) (show k + 1 ≤ pkM M by omega)
    have s6 := sumT_le (f := pkL D A E) (show k + 1 ≤ pkM M by omega)
    have e5 : sumT (pkN D) (k + 1) = sumT (pkN D) k + pkN D k := rfl
    have e6 : sumT (pkL D A E) (k + 1) = sumT (pkL D A E) k + pkL D A E k := rfl
    have go := fun σ hi => ih (k + 1) f σ (by omega) (by omega) (by omega) hi
    rw [e5, e6] at go
    rw [e5] at s5
    rw [e6] at s6
    unfold f_M_pack_293
    rw [e_o hm, bs, hP.2.2.1 σ (OWi_6 hI), xb_mk, if_neg (nI_ge (by omega) (by omega)), e_o hm, bs, r1 σ (OWi_6 hI), xb_mk]
    cases hD : D k with
    | false =>
      rw [if_pos (show bI false = 0 from rfl)]
      unfold f_M_pack_378
      rw [nI_add]
      rw [pkN_f hD, pkL_f hD] at go
      exact go σ hI
    | true =>
      rw [if_neg (show ¬ bI true = 0 by decide)]
      obtain ⟨a1, a2, a3⟩ := r2 hD
      rw [pkN_t h1 hD, pkL_t h1 hD] at go
      rw [pkN_t h1 hD] at s5
      rw [pkL_t h1 hD] at s6
      generalize sumT (pkN D) k = S5 at *
      generalize sumT (pkL D A E) k = S6 at *
      generalize sumT (pkN D) (pkM M) = U5 at *
      generalize sumT (pkL D A E) (pkM M) = U6 at *
      unfold f_M_highFirst
      refine sm_o hm (fun _ => sm_x (sm_high (F := F) (p := P5 + 4 * S5) hm (by omega) 4 0 F σ rfl (by omega) hI) (fun _ σ _ hi => ?_))
      rw [e_o hm, bs, (a3 σ (OWi_6 hi)).1, xb_mk, nI_add]
      refine sm_pk339 (k := k) (q6 := P6 + (S6 + (E k - A k + 1))) hm hP h1 hkM hD (by omega) ?_ (E k - A k) (A k) F (P6 + S6) σ (by omega) (by omega) (by omega) hi
      rw [show P5 + 4 * S5 + 4 = P5 + 4 * (S5 + 1) by omega]
      exact go
theorem sm_pk435 {k272 : Nat → Int32 → Int32 → Int32 → Int32 → Int32 → px_H → Option (Int32 × px_H)} {p5 p6 p7 : Nat} (hm : m ≤ h.length) (hF : 65540 < F) (hi7 : i < 64) (e129 : gA σ0 129 i = nI n) (hon : o + n ≤ 65536) (hp : p7 + pkZ n ≤ 65536) (hK : ∀ σ, OWi σ0 σ c → Sm m h I Any (k272 m (nI T) (nI p5) (nI p6) (nI (p7 + pkZ n)) (nI (i + 1)) (mh m h σ))) : ∀ (d j f : Nat) (σ : px_S), j + d = n → d < f → OWi σ0 σ c → Sm m h I Any (f_M_pack_435 F k272 f m (nI T) (nI p5) (nI p6) (nI p7) (nI i) (nI o) (nI j) (mh m h σ)) := by
  have hz : pkZ n = 60 + n + n % 2 := rfl
  rw [hz] at hp hK
  intro d
  induction d with
  | zero =>
    intro j f σ hj hf hI
    obtain ⟨f, rfl⟩ : ∃ y, f = y + 1 := ⟨f - 1, by omega⟩
    have g : gA σ 129 i = nI n := by rw [hI.1.2.2.1 129 (by decide)]; exact e129
    unfold f_M_pack_435 f_M_pack_476 f_M_pack_525
    rw [Mr129 hm, bs, Ma129 hm (by omega), bs, g, if_pos (nI_le (by omega) (by omega)), bs, Ma129 hm (by omega), bs, bs, Ma129 hm (by omega), bs, bs, Ma129 hm (by omega), bs, g, nI_m2 (by omega), nI_add, nI_add, nI_add, nI_add]
    refine sm_i (fun _ => ?_) (fun _ => hK σ hI)
    rw [Mr3 hm, bs, pk_sub (by omega)]
    exact sm_w3 hm hI (by omega) hK
  | succ d ih =>
    intro j f σ hj hf hI
    obtain ⟨f, rfl⟩ : ∃ y, f = y + 1 := ⟨f - 1, by omega⟩
    have g : gA σ 129 i = nI n := by rw [hI.1.2.2.1 129 (by decide)]; exact e129
    unfold f_M_pack_435
    rw [Mr129 hm, bs, Ma129 hm (by omega), bs, g, if_neg (nI_ge (by omega) (by omega)), Mr3 hm, bs, Mr6 hm, bs, nI_add, Ma6 hm (by omega), bs, nI_add, nI_add, nI_add]
    exact sm_w3 hm hI (by omega) (fun σ hi => ih _ _ _ (by omega) (by omega) hi)
theorem sm_pk384 {k272 : Nat → Int32 → Int32 → Int32 → Int32 → Int32 → px_H → Option (Int32 × px_H)} {p5 p6 p7 : Nat} (hm : m ≤ h.length) (hF : 65540 < F) (hi7 : i < 64) (e129 : gA σ0 129 i = nI n) (hon : o + n ≤ 65536) (hp : p7 + pkZ n ≤ 65536) (hK : ∀ σ, OWi σ0 σ c → Sm m h I Any (k272 m (nI T) (nI p5) (nI p6) (nI (p7 + pkZ n)) (nI (i + 1)) (mh m h σ))) (hI : OWi σ0 σ c) : Sm m h I Any (f_M_pack_384 F k272 m (nI T) (nI p5) (nI p6) (nI p7) (nI i) (nI o) (mh m h σ)) := by
  have hz : pkZ n = 60 + n + n % 2 := rfl
  have g : gA σ 129 i = nI n := by rw [hI.1.2.2.1 129 (by decide)]; exact e129
  unfold f_M_pack_384 f_M_ahead
  rw [Mr129 hm, bs, Ma129 hm (by omega), bs, g]
  refine sm_o hm (fun _ => sm_x (sm_ahead_2 (F := F) (p := p7) (v := n) hm hF (by omega) (by omega) 58 0 F σ rfl (by omega) hI) (fun _ σ _ hi => ?_))
  rw [Mr3 hm, bs]
  refine sm_w3 hm hi (by omega) (fun σ hi => ?_)
  rw [Mr3 hm, bs, nI_add]
  refine sm_w3 hm hi (by omega) (fun σ hi => ?_)
  rw [Mr3 hm, bs, nI_add]
  refine sm_w3 hm hi (by omega) (fun σ hi => ?_)
  exact sm_pk435 hm hF hi7 e129 hon hp hK n 0 F σ (Nat.zero_add _) (by omega) hi
end MPW
end
section
/-! the reference packs (steps spelled out by sf/pp.py) -/
def PKs (F m : Nat) (h : px_H) (σ : px_S) (c : Nat) (of nf Mf : Nat → Nat) (Df : Nat → Nat → Bool) (Af Ef : Nat → Nat → Nat) : Prop := c ≤ 7 ∧ gI σ 127 = nI c ∧ ∀ i, i < c → gA σ 128 i = nI (of i) ∧ gA σ 129 i = nI (nf i) ∧ PKo F m h (gA σ 6) (of i) (nf i) (Mf i) (Df i) (Af i) (Ef i)
def pkNN (Mf : Nat → Nat) (Df : Nat → Nat → Bool) (j : Nat) : Nat := sumT (pkN (Df j)) (pkM (Mf j))
def pkLL (Mf : Nat → Nat) (Df : Nat → Nat → Bool) (Af Ef : Nat → Nat → Nat) (j : Nat) : Nat := sumT (pkL (Df j) (Af j) (Ef j)) (pkM (Mf j))
def pkZZ (nf : Nat → Nat) (j : Nat) : Nat := pkZ (nf j)
/-- what pack changes -/
def PKe (σ0 σ : px_S) : Prop := FR [0, 4, 127] [] [3, 128, 129] [] σ0 σ ∧ OUo σ
section MPX
variable {F m : Nat} {h : px_H} {σ0 σ : px_S} {cc c T : Nat} {of nf Mf : Nat → Nat} {Df : Nat → Nat → Bool} {Af Ef : Nat → Nat → Nat}
theorem sm_pk272 {P5 P6 P7 : Nat} (hm : m ≤ h.length) (hF : 65540 < F) (hP : PKs F m h σ0 c of nf Mf Df Af Ef) (hcc : cc ≤ 65536) (h5 : P5 + 4 * sumT (pkNN Mf Df) c ≤ 65536) (h6 : P6 + sumT (pkLL Mf Df Af Ef) c ≤ 65536) (h7 : P7 + sumT (pkZZ nf) c ≤ 65536) : ∀ (d i f : Nat) (σ : px_S), i + d = c → d < f → OWi σ0 σ cc → Sm m h (OWe σ0) Any (f_M_pack_272 F f m (nI T) (nI (P5 + 4 * sumT (pkNN Mf Df) i)) (nI (P6 + sumT (pkLL Mf Df Af Ef) i)) (nI (P7 + sumT (pkZZ nf) i)) (nI i) (mh m h σ)) := by
  obtain ⟨hc7, e127, hO⟩ := hP
  intro d
  induction d with
  | zero =>
    intro i f σ hi hf hI
    obtain ⟨f, rfl⟩ : ∃ y, f = y + 1 := ⟨f - 1, by omega⟩
    unfold f_M_pack_272 f_M_pack_531
    rw [Mg127 hm, bs, hI.1.1 127 (by decide), e127, if_pos (nI_le (by omega) (by omega))]
    exact sm_r any ⟨cc, hcc, hI⟩
  | succ d ih =>
    intro i f σ hi hf hI
    obtain ⟨f, rfl⟩ : ∃ y, f = y + 1 := ⟨f - 1, by omega⟩
    obtain ⟨e128, e129, hPo⟩ := hO i (by omega)
    have s5 := sumT_le (f := pkNN Mf Df) (show i + 1 ≤ c by omega)
    have s6 := sumT_le (f := pkLL Mf Df Af Ef) (show i + 1 ≤ c by omega)
    have s7 := sumT_le (f := pkZZ nf) (show i + 1 ≤ c by omega)
    have e5 : sumT (pkNN Mf Df) (i + 1) = sumT (pkNN Mf Df) i + sumT (pkN (Df i)) (pkM (Mf i)) := rfl
    have e6 : sumT (pkLL Mf Df Af Ef) (i + 1) = sumT (pkLL Mf Df Af Ef) i + sumT (pkL (Df i) (Af i) (Ef i)) (pkM (Mf i)) := rfl
    have e7 : sumT (pkZZ nf) (i + 1) = sumT (pkZZ nf) i + pkZ (nf i) := rfl
    have go := fun σ hi => ih (i + 1) f σ (by omega) (by omega) hi
    rw [e5, e6, e7] at go
    rw [e5] at s5
    rw [e6] at s6
    rw [e7] at s7
    unfold f_M_pack_272
    rw [Mg127 hm, bs, hI.1.1 127 (by decide), e127, if_neg (nI_ge (by omega) (by omega)), Mr128 hm, bs, Ma128 hm (by omega), bs, hI.1.2.2.1 128 (by decide), e128]
    generalize sumT (pkNN Mf Df) i = S5 at *
    generalize sumT (pkLL Mf Df Af Ef) i = S6 at *
    generalize sumT (pkZZ nf) i = S7 at *
    generalize sumT (pkNN Mf Df) c = U5 at *
    generalize sumT (pkLL Mf Df Af Ef) c = U6 at *
    generalize sumT (pkZZ nf) c = U7 at *
    have hM := hPo.1
    obtain ⟨m1, m2, m3⟩ := pkM_1 (Mf i)
    have hMx : pkM (Mf i) ≤ 64 := by unfold pkM; split <;> omega
    have z0 : sumT (pkN (Df i)) 1 = 0 := rfl
    have z1 : sumT (pkL (Df i) (Af i) (Ef i)) 1 = 0 := rfl
    have w := sm_pk293 (σ0 := σ0) (c := cc) (T := T) (i := i) (I := OWe σ0) (k272 := f_M_pack_272 F f) (P5 := P5 + 4 * S5) (P6 := P6 + S6) (p7 := P7 + S7) hm hF hPo (by omega) (by omega) (fun σ hi => sm_pk384 hm hF (by omega) e129 hPo.2.1 (by omega) (fun σ hi => by
      have g := go σ hi
      rw [show P5 + 4 * (S5 + sumT (pkN (Df i)) (pkM (Mf i))) = P5 + 4 * S5 + 4 * sumT (pkN (Df i)) (pkM (Mf i)) by omega, ← Nat.add_assoc P6, ← Nat.add_assoc P7] at g
      exact g) hi) (pkM (Mf i) - 1) 1 F σ (by omega) (by omega) (by omega) hI
    rw [z0, z1] at w
    exact w
theorem sm_pk269 {N L Z a4 : Nat} (hm : m ≤ h.length) (hF : 65540 < F) (hP : PKs F m h σ0 c of nf Mf Df Af Ef) (hcc : cc ≤ 65536) (eN : N = sumT (pkNN Mf Df) c) (eL : L = sumT (pkLL Mf Df Af Ef) c) (eZ : Z = sumT (pkZZ nf) c) (e4 : a4 = 4 + 4 * N + L) (hT : 68 + Z + (a4 + a4 % 2) ≤ 8192) (hI : OWi σ0 σ cc) : Sm m h (OWe σ0) Any (f_M_pack_269 F m (nI T) (nI 72) (nI (72 + 4 * N)) (nI (68 + a4 + a4 % 2)) (mh m h σ)) := by
  have hc := hP.1
  unfold f_M_pack_269
  exact sm_pk272 (P5 := 72) (P6 := 72 + 4 * N) (P7 := 68 + a4 + a4 % 2) hm hF hP hcc (by rw [← eN]; omega) (by rw [← eL]; omega) (by rw [← eZ]; omega) c 0 F σ (Nat.zero_add _) (by omega) hI
theorem sm_pk187 {N L Z a4 : Nat} (hm : m ≤ h.length) (hF : 65540 < F) (hP : PKs F m h σ0 c of nf Mf Df Af Ef) (eN : N = sumT (pkNN Mf Df) c) (eL : L = sumT (pkLL Mf Df Af Ef) c) (eZ : Z = sumT (pkZZ nf) c) (e4 : a4 = 4 + 4 * N + L) (eT : T = 68 + Z + (a4 + a4 % 2)) (hT : T ≤ 8192) (hI : OWi σ0 σ cc) : Sm m h (OWe σ0) Any (f_M_pack_187 F m (nI N) (nI T) (nI a4) (mh m h σ)) := by
  have fin : ∀ σ, OWi σ0 σ T → Sm m h (OWe σ0) Any (f_M_pack_269 F m (nI T) (nI 72) (nI (72 + 4 * N)) (nI (68 + a4 + a4 % 2)) (mh m h σ)) := fun σ hi => sm_pk269 hm hF hP (by omega) eN eL eZ e4 (by omega) hi
  unfold f_M_pack_187
  refine sm_p4 hm hI (fun σ hi => ?_)
  obtain ⟨σ', e, w1, w2⟩ := q_put (F := F) (σ := σ) (at0 := 0) (n := 8) (v := (738142165265366049 : Int64)) hm (by omega) (by decide) hi.2.2
  have hi' : OWi σ0 σ' T := ⟨FR_trans hi.1 (FR_mono w1 (by decide) (by decide) (by decide) (by decide)), (w1.1 4 List.not_mem_nil).trans hi.2.1, w2⟩
  refine sm_o hm (fun _ => ?_)
  rw [e, xb_mk]
  unfold f_M_ahead f_M_highFirst
  refine sm_o hm (fun _ => sm_x (sm_ahead_2 (F := F) (p := 8) (v := a4) hm hF (by omega) (by omega) 58 0 F σ' rfl (by omega) hi') (fun _ σ _ hi => ?_))
  rw [Mr3 hm, bs]
  refine sm_w3 hm hi (by omega) (fun σ hi => ?_)
  refine sm_o hm (fun _ => sm_x (sm_high (F := F) (p := 68) hm (by omega) 4 0 F σ rfl (by omega) hi) (fun _ σ _ hi => ?_))
  rw [nI_m2 (by omega), nI_add, nI_add, show nI 4 * nI N = nI (4 * N) from (Int32.ofNat_mul _ _).symm, nI_add]
  refine sm_i (fun _ => ?_) (fun _ => fin σ hi)
  rw [Mr3 hm, bs, pk_sub (by omega)]
  exact sm_w3 hm hi (by omega) fin
theorem sm_pk167 {N L Z a4 : Nat} (hm : m ≤ h.length) (hF : 65540 < F) (hP : PKs F m h σ0 c of nf Mf Df Af Ef) (eN : N = sumT (pkNN Mf Df) c) (eL : L = sumT (pkLL Mf Df Af Ef) c) (eZ : Z = sumT (pkZZ nf) c) (e4 : a4 = 4 + 4 * N + L) (eT : T = 68 + Z + (a4 + a4 % 2)) (hT : T ≤ 8192) : ∀ (d j f : Nat) (σ : px_S), j + d = T → d < f → OWi σ0 σ cc → Sm m h (OWe σ0) Any (f_M_pack_167 F f m (nI N) (nI T) (nI a4) (nI j) (mh m h σ)) := by
  intro d
  induction d with
  | zero =>
    intro j f σ hj hf hI
    obtain ⟨f, rfl⟩ : ∃ y, f = y + 1 := ⟨f - 1, by omega⟩
    unfold f_M_pack_167
    rw [if_pos (nI_le (by omega) (by omega))]
    exact sm_pk187 hm hF hP eN eL eZ e4 eT hT hI
  | succ d ih =>
    intro j f σ hj hf hI
    obtain ⟨f, rfl⟩ : ∃ y, f = y + 1 := ⟨f - 1, by omega⟩
    unfold f_M_pack_167
    rw [if_neg (nI_ge (by omega) (by omega)), Mr3 hm, bs, nI_add]
    exact sm_w3 hm hI (by omega) (fun σ hi => ih _ _ _ (by omega) (by omega) hi)
theorem pk_bnd (hP : PKs F m h σ0 c of nf Mf Df Af Ef) : sumT (pkNN Mf Df) c ≤ 448 ∧ sumT (pkLL Mf Df Af Ef) c ≤ 29360128 ∧ sumT (pkZZ nf) c ≤ 459179 := by
  obtain ⟨hc7, e127, hO⟩ := hP
  have hM : ∀ i, i < c → pkM (Mf i) ≤ 64 := fun i hi => by
    have := (hO i hi).2.2.1
    unfold pkM; split <;> omega
  have b1 := sumT_b' (f := pkNN Mf Df) (k := 64) (n := c) (fun i hi => by
    have := sumT_b' (f := pkN (Df i)) (k := 1) (n := pkM (Mf i)) (fun j hj => by unfold pkN; repeat (first | omega | split))
    have := hM i hi
    unfold pkNN
    omega)
  have b2 := sumT_b' (f := pkLL Mf Df Af Ef) (k := 4194304) (n := c) (fun i hi => by
    have w := sumT_b' (f := pkL (Df i) (Af i) (Ef i)) (k := 65536) (n := pkM (Mf i)) (fun j hj => by
      cases hD : Df i j with
      | false => rw [pkL_f hD]; omega
      | true =>
        by_cases c0 : j = 0
        · unfold pkL; rw [if_pos c0]; omega
        · have := ((hO i hi).2.2.2.2.2 j (by omega) ((pkM_1 (Mf i)).2.2 j (by omega) hj)).2 hD
          rw [pkL_t (by omega) hD]
          omega)
    have := hM i hi
    unfold pkLL
    omega)
  have b3 := sumT_b' (f := pkZZ nf) (k := 65597) (n := c) (fun i hi => by
    have := (hO i hi).2.2.2.1
    unfold pkZZ pkZ
    omega)
  exact ⟨by omega, by omega, by omega⟩
theorem sm_pk136 (hm : m ≤ h.length) (hF : 65540 < F) (hP : PKs F m h σ0 c of nf Mf Df Af Ef) (hcc : cc ≤ 65536) (hI : OWi σ0 σ cc) : Sm m h (OWe σ0) Any (f_M_pack_136 F m (nI (sumT (pkNN Mf Df) c)) (nI (sumT (pkLL Mf Df Af Ef) c)) (nI (68 + sumT (pkZZ nf) c)) (mh m h σ)) := by
  obtain ⟨b1, b2, b3⟩ := pk_bnd hP
  have key : ∀ N L Z, N = sumT (pkNN Mf Df) c → L = sumT (pkLL Mf Df Af Ef) c → Z = sumT (pkZZ nf) c → Sm m h (OWe σ0) Any (f_M_pack_136 F m (nI N) (nI L) (nI (68 + Z)) (mh m h σ)) := fun N L Z eN eL eZ => by
    rw [← eN] at b1
    rw [← eL] at b2
    rw [← eZ] at b3
    unfold f_M_pack_136
    rw [show nI 4 * nI N = nI (4 * N) from (Int32.ofNat_mul _ _).symm, nI_add, nI_add, nI_m2 (by omega), nI_add, nI_add]
    by_cases hT : 68 + Z + (4 + 4 * N + L + (4 + 4 * N + L) % 2) ≤ 8192
    · rw [if_pos (nI_le hT (by decide))]
      exact sm_pk167 hm hF hP eN eL eZ rfl rfl hT _ 0 F σ (Nat.zero_add _) (by omega) hI
    · rw [if_neg (nI_ge (a := 8192) (by omega) (by omega))]
      exact sm_r any ⟨cc, hcc, hI⟩
  exact key _ _ _ rfl rfl rfl
end MPX
end
section
/-! the reference packs: it counts (steps spelled out by sf/pp.py) -/
theorem nI_nz {a : Nat} (h : a < 2 ^ 31) (c : ¬ a = 0) : ¬ nI a = (0 : Int32) := fun q => c ((nI_eq (b := 0) h (by decide)).mp q)
section MPY
variable {F m : Nat} {h : px_H} {σ0 σ : px_S} {cc c T i o n M : Nat} {of nf Mf : Nat → Nat} {Df : Nat → Nat → Bool} {Af Ef : Nat → Nat → Nat} {D : Nat → Bool} {A E : Nat → Nat} {I : px_S → Prop} {fs : px_FS}
theorem sm_pk51 {k30 : Nat → Int32 → Int32 → Int32 → Int32 → px_H → Option (Int32 × px_H)} {N L S : Nat} (hm : m ≤ h.length) (hP : PKo F m h (gA σ 6) o n M D A E) (hi7 : i < 64) (e129 : gA σ 129 i = nI n) (hK : Sm m h I Any (k30 m (nI (N + sumT (pkN D) (pkM M))) (nI (L + sumT (pkL D A E) (pkM M))) (nI (S + pkZ n)) (nI (i + 1)) (mh m h σ))) : ∀ (d k f : Nat), k + d = pkM M → 1 ≤ k → d < f → Sm m h I Any (f_M_pack_51 F k30 f m (nI (N + sumT (pkN D) k)) (nI (L + sumT (pkL D A E) k)) (nI S) (nI i) (nI o) (nI k) (mh m h σ)) := by
  obtain ⟨m1, m2, m3⟩ := pkM_1 M
  have hM := hP.1
  have hon := hP.2.1
  have hMx : pkM M ≤ 64 := by unfold pkM; split <;> omega
  intro d
  induction d with
  | zero =>
    intro k f hk h1 hf
    obtain ⟨f, rfl⟩ : ∃ y, f = y + 1 := ⟨f - 1, by omega⟩
    obtain rfl : k = pkM M := by omega
    have hz : pkZ n = 60 + n + n % 2 := rfl
    rw [hz] at hK
    unfold f_M_pack_51 f_M_pack_107
    rw [e_o hm, bs, hP.2.2.1 σ rfl, xb_mk, if_pos (nI_le (by omega) (by omega)), Mr129 hm, bs, Ma129 hm (by omega), bs, bs, Ma129 hm (by omega), bs, e129, nI_m2 (by omega), nI_add, nI_add, nI_add, nI_add]
    exact hK
  | succ d ih =>
    intro k f hk h1 hf
    obtain ⟨f, rfl⟩ : ∃ y, f = y + 1 := ⟨f - 1, by omega⟩
    have hkM := m3 k h1 (by omega)
    obtain ⟨r1, r2⟩ := hP.2.2.2 k h1 hkM
    have e5 : sumT (pkN D) (k + 1) = sumT (pkN D) k + pkN D k := rfl
    have e6 : sumT (pkL D A E) (k + 1) = sumT (pkL D A E) k + pkL D A E k := rfl
    have go := ih (k + 1) f (by omega) (by omega) (by omega)
    rw [e5, e6] at go
    unfold f_M_pack_51 f_M_pack_101
    rw [e_o hm, bs, hP.2.2.1 σ rfl, xb_mk, if_neg (nI_ge (by omega) (by omega)), e_o hm, bs, r1 σ rfl, xb_mk]
    cases hD : D k with
    | false =>
      rw [if_pos (show bI false = 0 from rfl), nI_add]
      rw [pkN_f hD, pkL_f hD] at go
      exact go
    | true =>
      rw [if_neg (show ¬ bI true = 0 by decide)]
      obtain ⟨a1, a2, a3⟩ := r2 hD
      rw [pkN_t h1 hD, pkL_t h1 hD] at go
      rw [e_o hm, bs, (a3 σ rfl).2, xb_mk, e_o hm, bs, (a3 σ rfl).1, xb_mk, pk_sub (by omega), nI_add, nI_add, nI_add, nI_add, Nat.add_assoc, Nat.add_assoc]
      exact go
theorem sm_pk30 (hm : m ≤ h.length) (hF : 65540 < F) (hP : PKs F m h σ c of nf Mf Df Af Ef) (ho : OUo σ) : ∀ (d i f : Nat), i + d = c → d < f → Sm m h (OWe σ) Any (f_M_pack_30 F f m (nI (sumT (pkNN Mf Df) i)) (nI (sumT (pkLL Mf Df Af Ef) i)) (nI (68 + sumT (pkZZ nf) i)) (nI i) (mh m h σ)) := by
  have hP' := hP
  obtain ⟨hc7, e127, hO⟩ := hP
  intro d
  induction d with
  | zero =>
    intro i f hi hf
    obtain ⟨f, rfl⟩ : ∃ y, f = y + 1 := ⟨f - 1, by omega⟩
    obtain rfl : i = c := by omega
    obtain ⟨cc, hcc, hI⟩ := OWe_0 ho (FR_refl σ)
    unfold f_M_pack_30
    rw [Mg127 hm, bs, e127, if_pos (nI_le (by omega) (by omega))]
    exact sm_pk136 hm hF hP' hcc hI
  | succ d ih =>
    intro i f hi hf
    obtain ⟨f, rfl⟩ : ∃ y, f = y + 1 := ⟨f - 1, by omega⟩
    obtain ⟨e128, e129, hPo⟩ := hO i (by omega)
    have e5 : sumT (pkNN Mf Df) (i + 1) = sumT (pkNN Mf Df) i + sumT (pkN (Df i)) (pkM (Mf i)) := rfl
    have e6 : sumT (pkLL Mf Df Af Ef) (i + 1) = sumT (pkLL Mf Df Af Ef) i + sumT (pkL (Df i) (Af i) (Ef i)) (pkM (Mf i)) := rfl
    have e7 : sumT (pkZZ nf) (i + 1) = sumT (pkZZ nf) i + pkZ (nf i) := rfl
    have go := ih (i + 1) f (by omega) (by omega)
    rw [e5, e6, e7, ← Nat.add_assoc] at go
    unfold f_M_pack_30
    rw [Mg127 hm, bs, e127, if_neg (nI_ge (by omega) (by omega)), Mr128 hm, bs, Ma128 hm (by omega), bs, e128]
    have hM := hPo.1
    obtain ⟨m1, m2, m3⟩ := pkM_1 (Mf i)
    have hMx : pkM (Mf i) ≤ 64 := by unfold pkM; split <;> omega
    have z0 : sumT (pkN (Df i)) 1 = 0 := rfl
    have z1 : sumT (pkL (Df i) (Af i) (Ef i)) 1 = 0 := rfl
    have w := sm_pk51 (i := i) (I := OWe σ) (k30 := f_M_pack_30 F f) (N := sumT (pkNN Mf Df) i) (L := sumT (pkLL Mf Df Af Ef) i) (S := 68 + sumT (pkZZ nf) i) hm hPo (by omega) e129 go (pkM (Mf i) - 1) 1 F (by omega) (by omega) (by omega)
    rw [z0, z1] at w
    exact w
/-- an object as pack reads it -/
theorem PKo_of {b : Nat → Nat} (hm : m ≤ h.length) (hF : 24 < F) (hB : ∀ k, isB (gA σ 6 k)) (eb : cb (gA σ 6) o n = b) (hon : o + n ≤ 65536) (he : eObj b n = 0) : PKo F m h (gA σ 6) o n (oM b) (fun k => decide (¬ (yB b k = 0 ∨ yW b k = 0))) (fun k => o + (oP b (oX b) + yN b k)) (fun k => o + (oP b (oX b) + yN b k) + yL b k) := by
  obtain ⟨hw, hy, _⟩ := eObj_0 he
  have hrk : rk (gA σ 6) o n := w1_rk (by rw [eb]; exact hw.1) hon
  have hS : 1 ≤ oS (cb (gA σ 6) o n) := by rw [eb]; exact hw.1.2.1.1
  refine ⟨w2_M hw, hon, fun σ' e6 => ?_, fun k h1 hk => ⟨fun σ' e6 => ?_, fun hD => ?_⟩⟩
  · have hb := Mmb (σ := σ') hm (by rw [e6]; exact hB)
    rw [e6] at hb
    rw [q_symbolMany hb hF hrk hS (by rw [eb]; exact w2_z hw), eb]
  · have hb := Mmb (σ := σ') hm (by rw [e6]; exact hB)
    rw [e6] at hb
    have hyk : yP (cb (gA σ 6) o n) k + 24 ≤ n := by rw [eb]; exact w2_y hw hk
    have q1 := q_bind (F := F) hb hF hrk hS hyk
    have q2 := q_where (F := F) hb hF hrk hS hyk
    rw [eb] at q1 q2
    have b1 : yB b k < 2 ^ 31 := by
      have := hy k h1 hk
      unfold yOK at this
      have := (of_decide_eq_true this).1
      omega
    have b2 : yW b k < 2 ^ 31 := by
      have := hy k h1 hk
      unfold yOK at this
      have h24 := hw.1.2.1.2
      rcases (of_decide_eq_true this).2.1 with e | e | e | e <;> omega
    unfold f_M_isDefining f_M_isDefining_22 f_M_isDefining_23
    rw [e_o hm, bs, q1, xb_mk]
    by_cases c1 : yB b k = 0
    · rw [if_pos (show nI (yB b k) = 0 by rw [c1]; rfl)]
      show _ = some (bI (decide (¬ (yB b k = 0 ∨ yW b k = 0))), mh m h σ')
      rw [show decide (¬ (yB b k = 0 ∨ yW b k = 0)) = false from decide_eq_false (fun w => w (Or.inl c1))]
      exact xz_b false _
    · rw [if_neg (nI_nz b1 c1), e_o hm, bs, q2, xb_mk]
      show _ = some (bI (decide (¬ (yB b k = 0 ∨ yW b k = 0))), mh m h σ')
      by_cases c2 : yW b k = 0
      · rw [if_pos (show nI (yW b k) = 0 by rw [c2]; rfl), show decide (¬ (yB b k = 0 ∨ yW b k = 0)) = false from decide_eq_false (fun w => w (Or.inr c2))]
        exact xz_b false _
      · rw [if_neg (nI_nz b2 c2), show decide (¬ (yB b k = 0 ∨ yW b k = 0)) = true from decide_eq_true (fun w => w.elim c1 c2)]
        exact xz_b true _
  · have hD' := of_decide_eq_true hD
    have hg : yG b k = true := by
      have := hy k h1 hk
      unfold yOK at this
      exact ((of_decide_eq_true this).2.2.2 (fun w => hD' (Or.inl w))).2.1
    have hgd := hg
    unfold yG at hgd
    have hgd := of_decide_eq_true hgd
    have hX := (hw.2 (w2_M0 hk)).2.2
    have hP := hw.1.2.2.2.1 (oX b) hX.1 (by rw [hX.2]; decide) (by rw [hX.2]; decide)
    have hlt : o + (oP b (oX b) + yN b k) + yL b k < 65536 := by
      generalize oP b (oX b) = x1 at *
      generalize yN b k = x2 at *
      generalize yL b k = x3 at *
      generalize oZ b (oX b) = x4 at *
      omega
    refine ⟨Nat.le_add_right _ _, hlt, fun σ' e6 => ⟨?_, ?_⟩⟩
    · have hb := Mmb (σ := σ') hm (by rw [e6]; exact hB)
      rw [e6] at hb
      rw [q_nameAt hb hF (by rw [eb]; exact hw) hon (by rw [eb]; exact hk), eb]
    · have q := q_nameEnd (F := F) (h := h) (m := m) (σ := σ') (o := o) (n := n) (k := k) hm (by rw [e6]; exact hB) hF (by rw [e6, eb]; exact hw) hon (by rw [e6, eb]; exact hk) (by rw [e6, eb]; exact hg)
      rw [e6, eb] at q
      exact q
theorem PKs_of {c : Nat} (hm : m ≤ h.length) (hF : 24 < F) (hr : RF σ0 fs) (hI : FOi fs σ0 σ c) (hc : c ≤ 7) : ∃ of nf Mf Df Af Ef, PKs F m h σ c of nf Mf Df Af Ef := by
  have hR := FOi_R hr hI
  have key : ∀ i, ∃ o n M D A E, i < c → gA σ 128 i = nI o ∧ gA σ 129 i = nI n ∧ PKo F m h (gA σ 6) o n M D A E := fun i => by
    by_cases hi : i < c
    · obtain ⟨q, o, n, b, e, e1, e2⟩ := hI.2.2 i hi
      obtain ⟨_, _, _, _, q5, q6, q7⟩ := RF_ob hR e
      exact ⟨o, n, _, _, _, _, fun _ => ⟨e1, e2, PKo_of hm hF hR.2.2.1 q5 q6 (q7 rfl)⟩⟩
    · exact ⟨0, 0, 0, fun _ => false, fun _ => 0, fun _ => 0, fun w => absurd w hi⟩
  exact ⟨fun i => (key i).choose, fun i => (key i).choose_spec.choose, fun i => (key i).choose_spec.choose_spec.choose, fun i => (key i).choose_spec.choose_spec.choose_spec.choose, fun i => (key i).choose_spec.choose_spec.choose_spec.choose_spec.choose, fun i => (key i).choose_spec.choose_spec.choose_spec.choose_spec.choose_spec.choose, hc, hI.2.1, fun i hi => (key i).choose_spec.choose_spec.choose_spec.choose_spec.choose_spec.choose_spec hi⟩
theorem OUo_FR {x1 x2 x3 x4 : List Nat} (ho : OUo σ0) (hf : FR x1 x2 x3 x4 σ0 σ) (h4 : 4 ∉ x1) (h3 : 3 ∉ x3) : OUo σ := by
  obtain ⟨⟨n, hn, en⟩, hb⟩ := ho
  exact ⟨⟨n, hn, (hf.1 4 h4).trans en⟩, by rw [hf.2.2.1 3 h3]; exact hb⟩
theorem sm_pack (hm : m ≤ h.length) (hF : 65540 < F) (hr : RF σ0 fs) (ho : OUo σ0) : Sm m h (PKe σ0) Any (f_M_pack F m (mh m h σ0)) := by
  unfold f_M_pack
  refine sm_pW (I1 := FR [0] [] [] [] σ0) hm rfl (FR_I _ _ _) (fun σ hi => ?_)
  have hr1 : RF σ fs := RF_0 hr hi
  refine sm_o hm (fun _ => sm_x (sm_fo hm hF hr1) (fun _ σ1 _ hfo => ?_))
  obtain ⟨c, hc64, hI⟩ := hfo
  have ho1 : OUo σ1 := OUo_FR (OUo_FR ho hi (by decide) (by decide)) hI.1 (by decide) (by decide)
  have fr1 : FR [0, 4, 127] [] [3, 128, 129] [] σ0 σ1 := FR_trans (FR_mono hi (by decide) (by decide) (by decide) (by decide)) (FR_mono hI.1 (by decide) (by decide) (by decide) (by decide))
  rw [Mg127 hm, bs, hI.2.1]
  by_cases c7 : c ≤ 7
  · rw [if_pos (nI_le c7 (by decide))]
    obtain ⟨of, nf, Mf, Df, Af, Ef, hP⟩ := PKs_of (F := F) hm (by omega) hr1 hI c7
    refine sm_wI (I1 := OWe σ1) (sm_pk30 hm hF hP ho1 c 0 F (Nat.zero_add _) (by omega)) (fun σ2 w => ?_)
    obtain ⟨cc, hcc, hW⟩ := w
    exact ⟨FR_trans fr1 (FR_mono hW.1 (by decide) (by decide) (by decide) (by decide)), ⟨cc, hcc, hW.2.1⟩, hW.2.2⟩
  · rw [if_neg (nI_ge (a := 7) (by omega) (by omega))]
    exact sm_r any ⟨fr1, ho1⟩
end MPY
end
section
/-! the reference merges: it counts parts and symbols (steps spelled out by sf/pp.py) -/
/-- what a merge reads of the link before it -/
def MGk (σ : px_S) (T : Nat) (tO tn : Nat → Nat) (tb : Nat → Nat → Nat) (dr : Nat → Bool) (xs : px_NL) (od : List Nat) (on : Bool) (R : Nat → Bool) : Prop := RWd σ T tO tn tb dr xs ∧ RSt σ on R ∧ RO σ od ∧ gI σ 14 = nI T
abbrev mgF (σ0 σ : px_S) : Prop := FR [123, 126] [] [117, 120, 121] [] σ0 σ
/-- part j: section i of object t -/
def MPj (σ : px_S) (T : Nat) (tb : Nat → Nat → Nat) (j t i : Nat) : Prop := t < T ∧ 1 ≤ i ∧ i < oS (tb t) ∧ gA σ 120 j = nI t ∧ gA σ 121 j = nI i ∧ (oK (tb t) i = true ∨ isS (tb t) i = true)
def MPt (σ : px_S) (T : Nat) (tb : Nat → Nat → Nat) (p : Nat) : Prop := 1 ≤ p ∧ p ≤ 22 ∧ gI σ 123 = nI p ∧ (∃ z, gI σ 126 = bI z) ∧ ∀ j, 1 ≤ j → j < p → ∃ t i, MPj σ T tb j t i
section MCN
variable {F m T t i : Nat} {h : px_H} {σ0 σ : px_S} {tO tn : Nat → Nat} {tb : Nat → Nat → Nat} {dr : Nat → Bool} {xs : px_NL} {od : List Nat} {on : Bool} {R : Nat → Bool} {I : px_S → Prop}
theorem MGk_FR {σ' : px_S} {x1 x2 x3 x4 : List Nat} (hk : MGk σ T tO tn tb dr xs od on R) (f : FR x1 x2 x3 x4 σ σ') (h1 : 20 ∉ x1 ∧ 68 ∉ x1 ∧ 48 ∉ x1 ∧ 14 ∉ x1) (h3 : ∀ k, k ∈ [6, 9, 17, 21, 22, 23, 24, 25, 26, 27, 28, 65, 73] → k ∉ x3) (h4 : 66 ∉ x3 ∧ 49 ∉ x3) (h5 : 30 ∉ x4) : MGk σ' T tO tn tb dr xs od on R :=
  ⟨RWd_FR hk.1 f h1.1 h3 h5, RSt_FR hk.2.1 f h1.2.1 h4.1, RO_FR hk.2.2.1 f h1.2.2.1 h4.2, (f.1 14 h1.2.2.2).trans hk.2.2.2⟩
theorem MGk_g (hk : MGk σ0 T tO tn tb dr xs od on R) (f : mgF σ0 σ) : MGk σ T tO tn tb dr xs od on R := MGk_FR hk f (by decide) (by decide) (by decide) (by decide)
theorem MGk_o (hk : MGk σ T tO tn tb dr xs od on R) (ht : t < T) : OB σ t (tO t) (tn t) (tb t) := hk.1.1 t ht
/-- a part comes -/
theorem sm_part {p : Nat} (hm : m ≤ h.length) (hT : T ≤ 64) (ht : t < T) (h1 : 1 ≤ i) (hi : i < 24) (hiS : i < oS (tb t)) (hKS : oK (tb t) i = true ∨ isS (tb t) i = true) (hf : mgF σ0 σ) (hP : MPt σ T tb p) : Sm m h (fun σ' => mgF σ0 σ' ∧ ∃ p, MPt σ' T tb p) Any (f_M_part F m (nI t) (nI i) (mh m h σ)) := by
  obtain ⟨p1, p2, e123, hz, hJ⟩ := hP
  unfold f_M_part
  rw [Mg123 hm, bs, e123]
  by_cases c : p = 22
  · rw [if_pos (by rw [c]), show nI 1 = bI true from rfl, e_pZ hm rfl, bs]
    exact sm_r any ⟨FR_trans hf (FR_mono (FR_I _ _ _) (by decide) (by decide) (by decide) (by decide)), p, p1, p2, e123, ⟨true, rfl⟩, hJ⟩
  · rw [if_neg (fun q => c ((nI_eq (by omega) (by decide)).mp q)), Mr117 hm, bs, bs, show nI 24 * nI t = nI (24 * t) from (Int32.ofNat_mul _ _).symm, nI_add, Ms117 hm (by omega), bs, Mr120 hm, bs, Mg123 hm, bs, gI_sA, e123, Ms120 hm (by omega), bs, Mr121 hm, bs, Mg123 hm, bs, gI_sA, gI_sA, e123, Ms121 hm (by omega), bs, Mg123 hm, bs, gI_sA, gI_sA, gI_sA, e123, nI_add, Mp123 hm, bs]
    refine sm_r any ⟨FR_trans (FR_trans (FR_trans (FR_trans hf (FR_mono (FR_A _ _ _) (by decide) (by decide) (by decide) (by decide))) (FR_mono (FR_A _ _ _) (by decide) (by decide) (by decide) (by decide))) (FR_mono (FR_A _ _ _) (by decide) (by decide) (by decide) (by decide))) (FR_mono (FR_I _ _ _) (by decide) (by decide) (by decide) (by decide)), p + 1, by omega, by omega, by rw [gI_sI, if_pos rfl], ?_, fun j j1 j2 => ?_⟩
    · obtain ⟨z, ez⟩ := hz
      exact ⟨z, by rw [gI_sI, if_neg (by decide)]; exact ez⟩
    · by_cases e : j = p
      · subst e
        refine ⟨t, i, ht, h1, hiS, ?_, ?_, hKS⟩
        · simp [gA_sI, gA_sA, upd]
        · simp [gA_sI, gA_sA, upd]
      · obtain ⟨t', i', w1, w2, w3, w4, w5, w6⟩ := hJ j j1 (by omega)
        refine ⟨t', i', w1, w2, w3, ?_, ?_, w6⟩
        · simp [gA_sI, gA_sA, upd, e, w4]
        · simp [gA_sI, gA_sA, upd, e, w5]
abbrev mgP (σ0 : px_S) (T : Nat) (tb : Nat → Nat → Nat) (σ : px_S) : Prop := mgF σ0 σ ∧ ∃ p, MPt σ T tb p
theorem sm_cp60 {k12 : Nat → Int32 → px_H → Option (Unit × px_H)} (hm : m ≤ h.length) (hF : 24 < F) (hT : T ≤ 64) (ht : t < T) (hk : MGk σ0 T tO tn tb dr xs od on R) (hK : ∀ σ, mgP σ0 T tb σ → Sm m h (mgP σ0 T tb) Any (k12 m (nI (t + 1)) (mh m h σ))) : ∀ (d i f : Nat) (σ : px_S), i + d = oS (tb t) → 1 ≤ i → d < f → mgP σ0 T tb σ → Sm m h (mgP σ0 T tb) Any (f_M_countParts_60 F k12 f m (nI t) (nI (tO t)) (nI i) (mh m h σ)) := by
  have hS24 := (OB_w (MGk_o hk ht)).1.2.1.2
  have he := (MGk_o hk ht).2.2.2.1
  intro d
  induction d with
  | zero =>
    intro i f σ hi h1 hf hI
    obtain ⟨f, rfl⟩ : ∃ y, f = y + 1 := ⟨f - 1, by omega⟩
    have hb := MGk_o (MGk_g hk hI.1) ht
    unfold f_M_countParts_60 f_M_countParts_105
    rw [e_o hm, bs, O_sec hm (by omega) hb, xb_mk, if_pos (nI_le (by omega) (by omega)), nI_add]
    exact hK σ hI
  | succ d ih =>
    intro i f σ hi h1 hf hI
    obtain ⟨f, rfl⟩ : ∃ y, f = y + 1 := ⟨f - 1, by omega⟩
    have hk1 := MGk_g hk hI.1
    have hb := MGk_o hk1 ht
    have hiS : i < oS (tb t) := by omega
    have go := fun σ hi => ih (i + 1) f σ (by omega) (by omega) (by omega) hi
    unfold f_M_countParts_60 f_M_countParts_99
    rw [e_o hm, bs, O_sec hm (by omega) hb, xb_mk, if_neg (nI_ge (by omega) (by omega)), e_o hm, bs, O_isS hm (by omega) hb hiS, xb_mk, nI_add]
    cases hs : isS (tb t) i with
    | false =>
      rw [if_pos (show bI false = 0 from rfl)]
      exact go σ hI
    | true =>
      have h0 := (eSit_0 he h1 hiS hs).1
      rw [if_neg (show ¬ bI true = 0 by decide), e_o hm, bs, O_info hm (by omega) hb hiS, xb_mk, lN_i, e_o hm, bs, q_stays hm (by omega) hb hk1.1.2.1 hk1.2.1 h0, xb_mk]
      refine sm_i (fun _ => go σ hI) (fun _ => ?_)
      obtain ⟨hf1, p, hP⟩ := hI
      exact sm_o hm (fun _ => sm_x (sm_part hm hT ht h1 (by omega) hiS (Or.inr hs) hf1 hP) (fun _ σ _ hi => go σ hi))
theorem sm_cp28 {k12 : Nat → Int32 → px_H → Option (Unit × px_H)} (hm : m ≤ h.length) (hF : 65540 < F) (hT : T ≤ 64) (ht : t < T) (hk : MGk σ0 T tO tn tb dr xs od on R) (hK : ∀ σ, mgP σ0 T tb σ → Sm m h (mgP σ0 T tb) Any (k12 m (nI (t + 1)) (mh m h σ))) : ∀ (d i f : Nat) (σ : px_S), i + d = oS (tb t) → 1 ≤ i → d < f → mgP σ0 T tb σ → Sm m h (mgP σ0 T tb) Any (f_M_countParts_28 F k12 f m (nI t) (nI (tO t)) (nI i) (mh m h σ)) := by
  have hS24 := (OB_w (MGk_o hk ht)).1.2.1.2
  intro d
  induction d with
  | zero =>
    intro i f σ hi h1 hf hI
    obtain ⟨f, rfl⟩ : ∃ y, f = y + 1 := ⟨f - 1, by omega⟩
    have hb := MGk_o (MGk_g hk hI.1) ht
    unfold f_M_countParts_28 f_M_countParts_58
    rw [e_o hm, bs, O_sec hm (by omega) hb, xb_mk, if_pos (nI_le (by omega) (by omega))]
    exact sm_cp60 hm (by omega) hT ht hk hK (oS (tb t) - 1) 1 F σ (by omega) (Nat.le_refl _) (by omega) hI
  | succ d ih =>
    intro i f σ hi h1 hf hI
    obtain ⟨f, rfl⟩ : ∃ y, f = y + 1 := ⟨f - 1, by omega⟩
    have hk1 := MGk_g hk hI.1
    have hb := MGk_o hk1 ht
    have hiS : i < oS (tb t) := by omega
    have go := fun σ hi => ih (i + 1) f σ (by omega) (by omega) (by omega) hi
    unfold f_M_countParts_28 f_M_countParts_52
    rw [e_o hm, bs, O_sec hm (by omega) hb, xb_mk, if_neg (nI_ge (by omega) (by omega)), e_o hm, bs, q_stays hm (by omega) hb hk1.1.2.1 hk1.2.1 hiS, xb_mk, nI_add]
    cases hs : sta tb dr on R t i with
    | false =>
      rw [if_pos (show bI false = 0 from rfl)]
      exact go σ hI
    | true =>
      rw [if_neg (show ¬ bI true = 0 by decide)]
      have hk' : oK (tb t) i = true := by
        unfold sta at hs
        rw [Bool.and_eq_true] at hs
        exact hs.1
      obtain ⟨hf1, p, hP⟩ := hI
      exact sm_o hm (fun _ => sm_x (sm_part hm hT ht h1 (by omega) hiS (Or.inl hk') hf1 hP) (fun _ σ _ hi => go σ hi))
theorem sm_cp12 (hm : m ≤ h.length) (hF : 65540 < F) (hT : T ≤ 64) (hk : MGk σ0 T tO tn tb dr xs od on R) : ∀ (d t f : Nat) (σ : px_S), t + d = T → d < f → mgP σ0 T tb σ → Sm m h (mgP σ0 T tb) Any (f_M_countParts_12 F f m (nI t) (mh m h σ)) := by
  intro d
  induction d with
  | zero =>
    intro t f σ ht hf hI
    obtain ⟨f, rfl⟩ : ∃ y, f = y + 1 := ⟨f - 1, by omega⟩
    unfold f_M_countParts_12 f_M_countParts_111
    rw [Mg14 hm, bs, (MGk_g hk hI.1).2.2.2, if_pos (nI_le (by omega) (by omega))]
    exact sm_r any hI
  | succ d ih =>
    intro t f σ ht hf hI
    obtain ⟨f, rfl⟩ : ∃ y, f = y + 1 := ⟨f - 1, by omega⟩
    have hk1 := MGk_g hk hI.1
    have hb := MGk_o hk1 (show t < T by omega)
    have hS := (OB_w hb).1.2.1
    unfold f_M_countParts_12
    rw [Mg14 hm, bs, hk1.2.2.2, if_neg (nI_ge (by omega) (by omega)), e_o hm, bs, O_obj hm hb, xb_mk]
    exact sm_cp28 hm hF hT (by omega) hk (fun σ hi => ih _ _ _ (by omega) (by omega) hi) (oS (tb t) - 1) 1 F σ (by omega) (Nat.le_refl _) (by omega) hI
theorem sm_countParts (hm : m ≤ h.length) (hF : 65540 < F) (hT : T ≤ 64) (hk : MGk σ0 T tO tn tb dr xs od on R) : Sm m h (mgP σ0 T tb) Any (f_M_countParts F m (mh m h σ0)) := by
  unfold f_M_countParts
  rw [Mp123 hm, bs, show nI 0 = bI false from rfl, e_pZ hm rfl, bs]
  refine sm_cp12 hm hF hT hk T 0 F _ (Nat.zero_add _) (by omega) ⟨FR_trans (FR_mono (FR_I _ _ _) (by decide) (by decide) (by decide) (by decide)) (FR_mono (FR_I _ _ _) (by decide) (by decide) (by decide) (by decide)), 1, Nat.le_refl _, by decide, rfl, ⟨false, rfl⟩, fun j h1 h2 => by omega⟩
end MCN
end
section
/-! the reference merges: it counts symbols (steps spelled out by sf/pp.py) -/
/-- the local symbols ahead of symbol k of object t have their numbers, below a -/
def MLo (σ : px_S) (tb : Nat → Nat → Nat) (t k a : Nat) : Prop := ∀ t' k', (t' < t ∨ (t' = t ∧ k' < k)) → 1 ≤ k' → k' < oM (tb t') → yB (tb t') k' = 0 → ∃ v, v < a ∧ gA σ 118 (64 * t' + k') = nI v
abbrev mgS (σ0 σ : px_S) : Prop := FR [124, 125] [] [118, 119, 122] [] σ0 σ
/-- the names that have a number: those from f on, below 64 -/
def MNl (σ : px_S) (N f a : Nat) : Prop := gI σ 124 = nI f ∧ ∀ k, f ≤ k → k < a → k < 64 → ∃ n, n < N ∧ gA σ 122 k = nI n
/-- symbols counted -/
def MSd (σ0 : px_S) (T : Nat) (tb : Nat → Nat → Nat) (N : Nat) (σ : px_S) : Prop := mgS σ0 σ ∧ ∃ f a, 1 ≤ f ∧ f ≤ a ∧ a < 2 ^ 20 ∧ gI σ 125 = nI a ∧ MLo σ tb T 0 a ∧ MNl σ N f a
section MCS
variable {F m T t i : Nat} {h : px_H} {σ0 σ : px_S} {tO tn : Nat → Nat} {tb : Nat → Nat → Nat} {dr : Nat → Bool} {xs : px_NL} {od : List Nat} {on : Bool} {R : Nat → Bool}
theorem MGk_s (hk : MGk σ0 T tO tn tb dr xs od on R) (f : mgS σ0 σ) : MGk σ T tO tn tb dr xs od on R := MGk_FR hk f (by decide) (by decide) (by decide) (by decide)
/-- a name gets its number -/
theorem sm_numN {n f a : Nat} (hm : m ≤ h.length) (hn : n < xs.length) (hx : xs.length ≤ 4096) (ha : a + 1 < 2 ^ 20) (hfa : f ≤ a) (hf : mgS σ0 σ) (e125 : gI σ 125 = nI a) (hL : MLo σ tb T 0 a) (hN : MNl σ xs.length f a) : Sm m h (fun σ' => mgS σ0 σ' ∧ gI σ' 125 = nI (a + 1) ∧ MLo σ' tb T 0 (a + 1) ∧ MNl σ' xs.length f (a + 1)) Any (f_M_numberName F m (nI n) (mh m h σ)) := by
  obtain ⟨e124, hK⟩ := hN
  unfold f_M_numberName
  rw [Mg125 hm, bs, e125]
  have fin : ∀ σ1, mgS σ0 σ1 → gI σ1 125 = nI a → gI σ1 124 = nI f → gA σ1 118 = gA σ 118 → (∀ k, f ≤ k → k < a + 1 → k < 64 → ∃ n, n < xs.length ∧ gA σ1 122 k = nI n) → Sm m h (fun σ' => mgS σ0 σ' ∧ gI σ' 125 = nI (a + 1) ∧ MLo σ' tb T 0 (a + 1) ∧ MNl σ' xs.length f (a + 1)) Any (f_M_numberName_19 F m (nI n) (mh m h σ1)) := fun σ1 g1 g2 g3 g4 g5 => by
    unfold f_M_numberName_19
    rw [Mr119 hm, bs, Mg125 hm, bs, g2, Ms119 hm (by omega), bs, Mg125 hm, bs, gI_sA, g2, nI_add, Mp125 hm, bs]
    refine sm_r any ⟨FR_trans (FR_trans g1 (FR_mono (FR_A _ _ _) (by decide) (by decide) (by decide) (by decide))) (FR_mono (FR_I _ _ _) (by decide) (by decide) (by decide) (by decide)), by rw [gI_sI, if_pos rfl], fun t' k' w1 w2 w3 w4 => ?_, by rw [gI_sI, if_neg (by decide), gI_sA]; exact g3, fun k k1 k2 k3 => ?_⟩
    · obtain ⟨v, v1, v2⟩ := hL t' k' w1 w2 w3 w4
      refine ⟨v, by omega, ?_⟩
      rw [gA_sI, gA_sA, if_neg (by decide), g4]
      exact v2
    · obtain ⟨n', n1, n2⟩ := g5 k k1 k2 k3
      exact ⟨n', n1, by rw [gA_sI, gA_sA, if_neg (by decide)]; exact n2⟩
  by_cases c : 64 ≤ a
  · rw [if_pos (nI_le c (by omega))]
    exact fin σ hf e125 e124 rfl (fun k k1 k2 k3 => hK k k1 (by omega) k3)
  · rw [if_neg (nI_ge (by omega) (by omega)), Mr122 hm, bs, bs, Ms122 hm (by omega), bs]
    refine fin _ (FR_trans hf (FR_mono (FR_A _ _ _) (by decide) (by decide) (by decide) (by decide))) (by rw [gI_sA]; exact e125) (by rw [gI_sA]; exact e124) (by rw [gA_sA, if_neg (by decide)]) (fun k k1 k2 k3 => ?_)
    rw [gA_sA, if_pos rfl]
    by_cases e : k = a
    · exact ⟨n, hn, by simp [upd, e]⟩
    · obtain ⟨n', n1, n2⟩ := hK k k1 (by omega) k3
      exact ⟨n', n1, by simp [upd, e, n2]⟩
theorem sm_cs119 (hm : m ≤ h.length) (hF : 65540 < F) (hk : MGk σ0 T tO tn tb dr xs od on R) {f0 : Nat} (hf1 : 1 ≤ f0) : ∀ (d n f a : Nat) (σ : px_S), n + d = xs.length → d < f → a + d < 2 ^ 20 → f0 ≤ a → mgS σ0 σ → gI σ 125 = nI a → MLo σ tb T 0 a → MNl σ xs.length f0 a → Sm m h (MSd σ0 T tb xs.length) Any (f_M_countSymbols_119 F f m (nI n) (mh m h σ)) := by
  have hx : xs.length ≤ 4096 := by have := hk.1.2.2.1.2.1; rw [List.length_map] at this; exact this
  intro d
  induction d with
  | zero =>
    intro n f a σ hn hf ha hfa hI e125 hL hN
    obtain ⟨f, rfl⟩ : ∃ y, f = y + 1 := ⟨f - 1, by omega⟩
    have e20 : gI σ 20 = nI xs.length := by have := (MGk_s hk hI).1.2.2.1.1; rw [List.length_map] at this; exact this
    unfold f_M_countSymbols_119 f_M_countSymbols_157
    rw [Mg20 hm, bs, e20, if_pos (nI_le (by omega) (by omega))]
    exact sm_r any ⟨hI, f0, a, hf1, hfa, by omega, e125, hL, hN⟩
  | succ d ih =>
    intro n f a σ hn hf ha hfa hI e125 hL hN
    obtain ⟨f, rfl⟩ : ∃ y, f = y + 1 := ⟨f - 1, by omega⟩
    have e20 : gI σ 20 = nI xs.length := by have := (MGk_s hk hI).1.2.2.1.1; rw [List.length_map] at this; exact this
    have e1 : Sm m h (MSd σ0 T tb xs.length) Any (f_M_countSymbols_151 F (f_M_countSymbols_119 F f) m (nI n) (mh m h σ)) := by
      unfold f_M_countSymbols_151
      rw [nI_add]
      exact ih _ _ a σ (by omega) (by omega) (by omega) hfa hI e125 hL hN
    have e2 : Sm m h (MSd σ0 T tb xs.length) Any (f_M_countSymbols_146 F (f_M_countSymbols_119 F f) m (nI n) (mh m h σ)) := by
      unfold f_M_countSymbols_146 f_M_countSymbols_151
      rw [nI_add]
      refine sm_o hm (fun _ => sm_x (sm_numN (F := F) (n := n) (xs := xs) hm (by omega) hx (by omega) hfa hI e125 hL hN) (fun _ σ _ hi => ?_))
      obtain ⟨g1, g2, g3, g4⟩ := hi
      exact ih _ _ (a + 1) σ (by omega) (by omega) (by omega) (by omega) g1 g2 g3 g4
    unfold f_M_countSymbols_119
    rw [Mg20 hm, bs, e20, if_neg (nI_ge (by omega) (by omega)), Mr23 hm, bs, Ma23 hm (by omega), bs]
    refine sm_i (fun _ => e2) (fun _ => ?_)
    rw [bs, Ma23 hm (by omega), bs]
    exact sm_i (fun _ => e2) (fun _ => e1)
theorem sm_cs93 (hm : m ≤ h.length) (hF : 65540 < F) (hk : MGk σ0 T tO tn tb dr xs od on R) (hod : ∀ d, d ∈ od → d < xs.length) {f0 : Nat} (hf1 : 1 ≤ f0) : ∀ (d q f a : Nat) (σ : px_S), q + d = od.length → d < f → a + d + xs.length < 2 ^ 20 → f0 ≤ a → mgS σ0 σ → gI σ 125 = nI a → MLo σ tb T 0 a → MNl σ xs.length f0 a → Sm m h (MSd σ0 T tb xs.length) Any (f_M_countSymbols_93 F f m (nI q) (mh m h σ)) := by
  have hx : xs.length ≤ 4096 := by have := hk.1.2.2.1.2.1; rw [List.length_map] at this; exact this
  have hl := hk.2.2.1.2.1
  intro d
  induction d with
  | zero =>
    intro q f a σ hq hf ha hfa hI e125 hL hN
    obtain ⟨f, rfl⟩ : ∃ y, f = y + 1 := ⟨f - 1, by omega⟩
    unfold f_M_countSymbols_93 f_M_countSymbols_117
    rw [Mg48 hm, bs, (MGk_s hk hI).2.2.1.1, if_pos (nI_le (by omega) (by omega))]
    exact sm_cs119 hm hF hk hf1 xs.length 0 F a σ (Nat.zero_add _) (by omega) (by omega) hfa hI e125 hL hN
  | succ d ih =>
    intro q f a σ hq hf ha hfa hI e125 hL hN
    obtain ⟨f, rfl⟩ : ∃ y, f = y + 1 := ⟨f - 1, by omega⟩
    have hx' : od[q]? = some od[q] := List.getElem?_eq_getElem (by omega)
    have hO := (MGk_s hk hI).2.2.1
    unfold f_M_countSymbols_93
    rw [Mg48 hm, bs, hO.1, if_neg (nI_ge (by omega) (by omega)), Mr49 hm, bs, Ma49 hm (by omega), bs, hO.2.2 q _ hx', nI_add]
    refine sm_o hm (fun _ => sm_x (sm_numN (F := F) (n := od[q]) (xs := xs) hm (hod _ (List.getElem_mem _)) hx (by omega) hfa hI e125 hL hN) (fun _ σ _ hi => ?_))
    obtain ⟨g1, g2, g3, g4⟩ := hi
    exact ih _ _ (a + 1) σ (by omega) (by omega) (by omega) (by omega) g1 g2 g3 g4
theorem sm_cs17 {k7 : Nat → Int32 → px_H → Option (Unit × px_H)} (hm : m ≤ h.length) (hF : 65540 < F) (hT : T ≤ 64) (ht : t < T) (hk : MGk σ0 T tO tn tb dr xs od on R) (hK : ∀ σ a, 1 ≤ a → a ≤ 1 + 64 * (t + 1) → mgS σ0 σ → gI σ 125 = nI a → MLo σ tb (t + 1) 0 a → Sm m h (MSd σ0 T tb xs.length) Any (k7 m (nI (t + 1)) (mh m h σ))) : ∀ (d k f a : Nat) (σ : px_S), k + d = pkM (oM (tb t)) → 1 ≤ k → d < f → 1 ≤ a → a ≤ 64 * t + k → mgS σ0 σ → gI σ 125 = nI a → MLo σ tb t k a → Sm m h (MSd σ0 T tb xs.length) Any (f_M_countSymbols_17 F k7 f m (nI t) (nI k) (mh m h σ)) := by
  have hM := w2_M (OB_w (MGk_o hk ht))
  obtain ⟨m1, m2, m3⟩ := pkM_1 (oM (tb t))
  have hMx : pkM (oM (tb t)) ≤ 64 := by unfold pkM; split <;> omega
  intro d
  induction d with
  | zero =>
    intro k f a σ hk1 h1 hf ha1 ha hI e125 hL
    obtain ⟨f, rfl⟩ : ∃ y, f = y + 1 := ⟨f - 1, by omega⟩
    have hb := MGk_o (MGk_s hk hI) ht
    unfold f_M_countSymbols_17 f_M_countSymbols_77
    rw [e_o hm, bs, O_obj hm hb, xb_mk, e_o hm, bs, O_many hm (by omega) hb, xb_mk, if_pos (nI_le (by omega) (by omega)), nI_add]
    refine hK σ a ha1 (by omega) hI e125 (fun t' k' w1 w2 w3 w4 => hL t' k' ?_ w2 w3 w4)
    rcases w1 with w1 | w1
    · by_cases e : t' = t
      · subst e
        exact Or.inr ⟨rfl, by omega⟩
      · exact Or.inl (by omega)
    · omega
  | succ d ih =>
    intro k f a σ hk1 h1 hf ha1 ha hI e125 hL
    obtain ⟨f, rfl⟩ : ∃ y, f = y + 1 := ⟨f - 1, by omega⟩
    have hb := MGk_o (MGk_s hk hI) ht
    have hkM := m3 k h1 (by omega)
    have hyB : yB (tb t) k < 2 ^ 31 := by
      have := OB_y hb h1 hkM
      unfold yOK at this
      have := (of_decide_eq_true this).1
      omega
    unfold f_M_countSymbols_17 f_M_countSymbols_71
    rw [e_o hm, bs, O_obj hm hb, xb_mk, e_o hm, bs, O_many hm (by omega) hb, xb_mk, if_neg (nI_ge (by omega) (by omega)), e_o hm, bs, O_obj hm hb, xb_mk, e_o hm, bs, O_bind hm (by omega) hb hkM, xb_mk, nI_add]
    by_cases c : yB (tb t) k = 0
    · rw [if_pos (by rw [c]; rfl), Mr118 hm, bs, Mg125 hm, bs, e125, show nI 64 * nI t = nI (64 * t) from (Int32.ofNat_mul _ _).symm, nI_add, Ms118 hm (by omega), bs, Mg125 hm, bs, gI_sA, e125, nI_add, Mp125 hm, bs]
      refine ih (k + 1) f (a + 1) _ (by omega) (by omega) (by omega) (by omega) (by omega) (FR_trans (FR_trans hI (FR_mono (FR_A _ _ _) (by decide) (by decide) (by decide) (by decide))) (FR_mono (FR_I _ _ _) (by decide) (by decide) (by decide) (by decide))) (by rw [gI_sI, if_pos rfl]) (fun t' k' w1 w2 w3 w4 => ?_)
      rw [gA_sI, gA_sA, if_pos rfl]
      by_cases e : 64 * t' + k' = 64 * t + k
      · exact ⟨a, by omega, by simp [upd, e]⟩
      · obtain ⟨v, v1, v2⟩ := hL t' k' (by
          rcases w1 with w1 | ⟨w1, w5⟩
          · exact Or.inl w1
          · refine Or.inr ⟨w1, ?_⟩
            have : k' ≠ k := fun q => e (by rw [w1, q])
            omega) w2 w3 w4
        exact ⟨v, by omega, by simp [upd, e, v2]⟩
    · rw [if_neg (nI_nz hyB c)]
      refine ih (k + 1) f a σ (by omega) (by omega) (by omega) ha1 (by omega) hI e125 (fun t' k' w1 w2 w3 w4 => hL t' k' ?_ w2 w3 w4)
      rcases w1 with w1 | ⟨w1, w5⟩
      · exact Or.inl w1
      · refine Or.inr ⟨w1, ?_⟩
        have : k' ≠ k := fun q => c (by rw [w1, q] at w4; exact w4)
        omega
theorem sm_cs7 (hm : m ≤ h.length) (hF : 65540 < F) (hT : T ≤ 64) (hk : MGk σ0 T tO tn tb dr xs od on R) (hod : ∀ d, d ∈ od → d < xs.length) : ∀ (d t f a : Nat) (σ : px_S), t + d = T → d < f → 1 ≤ a → a ≤ 1 + 64 * t → mgS σ0 σ → gI σ 125 = nI a → MLo σ tb t 0 a → Sm m h (MSd σ0 T tb xs.length) Any (f_M_countSymbols_7 F f m (nI t) (mh m h σ)) := by
  have hx : xs.length ≤ 4096 := by have := hk.1.2.2.1.2.1; rw [List.length_map] at this; exact this
  have hl := hk.2.2.1.2.1
  intro d
  induction d with
  | zero =>
    intro t f a σ ht hf ha1 ha hI e125 hL
    obtain ⟨f, rfl⟩ : ∃ y, f = y + 1 := ⟨f - 1, by omega⟩
    obtain rfl : t = T := by omega
    unfold f_M_countSymbols_7 f_M_countSymbols_83
    rw [Mg14 hm, bs, (MGk_s hk hI).2.2.2, if_pos (nI_le (by omega) (by omega)), Mg125 hm, bs, e125, Mp124 hm, bs]
    refine sm_cs93 hm hF hk hod ha1 od.length 0 F a _ (Nat.zero_add _) (by omega) (by omega) (Nat.le_refl _) (FR_trans hI (FR_mono (FR_I _ _ _) (by decide) (by decide) (by decide) (by decide))) (by rw [gI_sI, if_neg (by decide)]; exact e125) hL ⟨by rw [gI_sI, if_pos rfl], fun k k1 k2 => by omega⟩
  | succ d ih =>
    intro t f a σ ht hf ha1 ha hI e125 hL
    obtain ⟨f, rfl⟩ : ∃ y, f = y + 1 := ⟨f - 1, by omega⟩
    have hMM := w2_M (OB_w (MGk_o hk (show t < T by omega)))
    obtain ⟨m1, m2, m3⟩ := pkM_1 (oM (tb t))
    have hMx : pkM (oM (tb t)) ≤ 64 := by unfold pkM; split <;> omega
    unfold f_M_countSymbols_7
    rw [Mg14 hm, bs, (MGk_s hk hI).2.2.2, if_neg (nI_ge (by omega) (by omega))]
    refine sm_cs17 hm hF hT (by omega) hk (fun σ a g1 g2 g3 g4 g5 => ih _ _ a σ (by omega) (by omega) g1 g2 g3 g4 g5) (pkM (oM (tb t)) - 1) 1 F a σ (by omega) (Nat.le_refl _) (by omega) ha1 (by omega) hI e125 (fun t' k' w1 w2 w3 w4 => hL t' k' ?_ w2 w3 w4)
    rcases w1 with w1 | w1
    · exact Or.inl w1
    · omega
theorem sm_countSymbols (hm : m ≤ h.length) (hF : 65540 < F) (hT : T ≤ 64) (hk : MGk σ0 T tO tn tb dr xs od on R) (hod : ∀ d, d ∈ od → d < xs.length) : Sm m h (MSd σ0 T tb xs.length) Any (f_M_countSymbols F m (mh m h σ0)) := by
  unfold f_M_countSymbols
  rw [Mp125 hm, bs]
  exact sm_cs7 hm hF hT hk hod T 0 F 1 _ (Nat.zero_add _) (by omega) (Nat.le_refl _) (by omega) (FR_mono (FR_I _ _ _) (by decide) (by decide) (by decide) (by decide)) (by rw [gI_sI, if_pos rfl]) (fun t' k' w1 => by omega)
end MCS
end
