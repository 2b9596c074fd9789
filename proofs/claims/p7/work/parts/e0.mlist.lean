/-! the reference's list: safe (steps spelled out by sf/pp.py) -/
/-- OUT is being written: c bytes stand there -/
def OWi (σ0 σ : px_S) (c : Nat) : Prop := FR [0, 4] [] [3] [] σ0 σ ∧ gI σ 4 = nI c ∧ ∀ k, isB (gA σ 3 k)
section MLI
variable {F m : Nat} {h : px_H} {σ0 σ : px_S} {fs : px_FS} {c : Nat}
theorem OWi_w {j : Nat} {v : Int32} (hI : OWi σ0 σ c) : OWi σ0 (sA σ 3 (upd (gA σ 3) j v.toInt8.toInt32)) c := by
  obtain ⟨h1, h2, h3⟩ := hI
  refine ⟨FR_trans h1 (FR_mono (FR_A _ _ _) (by decide) (by decide) (by decide) (by decide)), h2, fun k => ?_⟩
  rw [gA_sA, if_pos rfl]
  exact upd_B h3 (isB_8 _) k
theorem OWi_p {c' : Nat} (hI : OWi σ0 σ c) : OWi σ0 (sI σ 4 (nI c')) c' := by
  obtain ⟨h1, h2, h3⟩ := hI
  exact ⟨FR_trans h1 (FR_mono (FR_I _ _ _) (by decide) (by decide) (by decide) (by decide)), by rw [gI_sI, if_pos rfl], h3⟩
theorem OWi_6 (hI : OWi σ0 σ c) : gA σ 6 = gA σ0 6 := hI.1.2.2.1 6 (by decide)
/-- one byte of OUT -/
theorem sm_w3 {I : px_S → Prop} {α : Type} {V : α → Prop} {f : px_H → Option (α × px_H)} {p : Nat} {v : Int32} (hm : m ≤ h.length) (hI : OWi σ0 σ c) (hp : p < 65536) (g : ∀ σ, OWi σ0 σ c → Sm m h I V (f (mh m h σ))) : Sm m h I V ((xsI (mh m h σ) 0 (m + 2) (nI p) v.toInt8.toInt32).bind f) := by
  rw [Ms3 hm hp, bs]; exact g _ (OWi_w hI)
theorem sm_p4 {I : px_S → Prop} {α : Type} {V : α → Prop} {f : px_H → Option (α × px_H)} {c' : Nat} (hm : m ≤ h.length) (hI : OWi σ0 σ c) (g : ∀ σ, OWi σ0 σ c' → Sm m h I V (f (mh m h σ))) : Sm m h I V ((xpI (mh m h σ) 12 4 m (nI c')).bind f) := by
  rw [Mp4 hm, bs]; exact g _ (OWi_p hI)
theorem sm_16_3 {x : Int64} {p : Nat} (hm : m ≤ h.length) (hp : p + 16 ≤ 65536) : ∀ (d j f : Nat) (σ : px_S), j + d = 16 → d < f → OWi σ0 σ c → Sm m h (fun σ' => OWi σ0 σ' c) Any (f_M_sixteen_3 F f m (nI p) x (nI j) (mh m h σ)) := by
  intro d
  induction d with
  | zero =>
    intro j f σ hj hf hI
    obtain ⟨f, rfl⟩ : ∃ y, f = y + 1 := ⟨f - 1, by omega⟩
    unfold f_M_sixteen_3 f_M_sixteen_65
    rw [if_pos (nI_le (by omega) (by omega))]
    exact sm_r any hI
  | succ d ih =>
    intro j f σ hj hf hI
    obtain ⟨f, rfl⟩ : ∃ y, f = y + 1 := ⟨f - 1, by omega⟩
    unfold f_M_sixteen_3 f_M_sixteen_57
    rw [if_neg (nI_ge (by omega) (by omega)), nI_add, nI_add]
    refine sm_gR hm (c := 2) rfl (sm_i (fun _ => ?_) (fun _ => ?_))
    · exact sm_w3 hm hI (by omega) (fun σ hi => ih _ _ _ (by omega) (by omega) hi)
    · exact sm_w3 hm hI (by omega) (fun σ hi => ih _ _ _ (by omega) (by omega) hi)
theorem so_letter {o n k : Nat} (hm : m ≤ h.length) (hF : 24 < F) (hB : ∀ k, isB (gA σ 6 k)) (hw : w2 (cb (gA σ 6) o n) n) (hon : o + n ≤ 65536) (hk : k < oM (cb (gA σ 6) o n)) (hy : yOK (cb (gA σ 6) o n) k = true) : ∃ v, f_M_letterOf F m (nI o) (nI k) (mh m h σ) = some (v, mh m h σ) := by
  have hb := Mmb hm hB
  have hrk := w1_rk hw.1 hon
  have h1 := hw.1.2.1.1
  have hW := yOK_W hy
  have h24 := hw.1.2.1.2
  have key : ∀ s0 : Int32, ∃ v, f_M_letterOf_22 F m (nI o) (nI (yW (cb (gA σ 6) o n) k)) s0 (mh m h σ) = some (v, mh m h σ) := fun s0 => by
    unfold f_M_letterOf_22 f_M_letterOf_40 f_M_letterOf_110 f_M_letterOf_117
    by_cases c1 : nI (yW (cb (gA σ 6) o n) k) = 0
    · rw [if_pos c1]
      split
      · exact ⟨_, rfl⟩
      · exact ⟨_, rfl⟩
    · rw [if_neg c1]
      by_cases c2 : nI (yW (cb (gA σ 6) o n) k) = (65522 : Int32)
      · rw [if_pos c2]; exact ⟨_, rfl⟩
      · rw [if_neg c2]
        by_cases c3 : s0 = 0
        · rw [if_pos c3]
          by_cases c4 : nI (yW (cb (gA σ 6) o n) k) = (65521 : Int32)
          · rw [if_pos c4]; exact ⟨_, rfl⟩
          · have hlt : yW (cb (gA σ 6) o n) k < oS (cb (gA σ 6) o n) := by
              rcases hW with w | w | w | w
              · exact absurd (by rw [w]; rfl) c1
              · exact absurd (by rw [w]; rfl) c4
              · exact absurd (by rw [w]; rfl) c2
              · exact w
            rw [if_neg c4, e_o hm, bs, q_group hb (by omega) hrk hlt, xb_mk]
            split
            · exact ⟨_, rfl⟩
            · split
              · exact ⟨_, rfl⟩
              · split
                · exact ⟨_, rfl⟩
                · split
                  · exact ⟨_, rfl⟩
                  · exact ⟨_, rfl⟩
        · rw [if_neg c3]; exact ⟨_, rfl⟩
  unfold f_M_letterOf
  rw [e_o hm, bs, q_where hb hF hrk h1 (w2_y hw hk), xb_mk, e_o hm, bs, q_bind hb hF hrk h1 (w2_y hw hk), xb_mk]
  split
  · exact key _
  · exact key _
/-- an object that is listed -/
def OBl (σ0 : px_S) (o n : Nat) : Prop := (∀ k, isB (gA σ0 6 k)) ∧ o + n ≤ 65536 ∧ eObj (cb (gA σ0 6) o n) n = 0
theorem sm_li_273 {k110 : Nat → Int32 → Int32 → px_H → Option (Int32 × px_H)} {o k P c0 Y : Nat} (hm : m ≤ h.length) (hY : Y ≤ 20) (hP : P + Y < 65536) (hq : ∀ σ c, OWi σ0 σ c → f_M_nameEnd F m (nI o) (nI k) (mh m h σ) = some (nI (P + Y), mh m h σ)) (hc0 : c0 + 40 ≤ 65536) (hK : ∀ c σ, c ≤ c0 + 21 → OWi σ0 σ c → Sm m h (fun σ' => ∃ c, c ≤ 65536 ∧ OWi σ0 σ' c) Any (k110 m (nI o) (nI (k + 1)) (mh m h σ))) : ∀ (d t f : Nat) (σ : px_S), t + d = Y → d < f → OWi σ0 σ (c0 + t) → Sm m h (fun σ' => ∃ c, c ≤ 65536 ∧ OWi σ0 σ' c) Any (f_M_list_273 F k110 f m (nI o) (nI k) (nI (P + t)) (mh m h σ)) := by
  intro d
  induction d with
  | zero =>
    intro t f σ hj hf hI
    obtain ⟨f, rfl⟩ : ∃ y, f = y + 1 := ⟨f - 1, by omega⟩
    unfold f_M_list_273 f_M_list_318 f_M_list_339
    rw [e_o hm, bs, hq σ _ hI, xb_mk, if_pos (nI_le (by omega) (by omega)), Mr3 hm, bs, Mg4 hm, bs, hI.2.1, nI_add]
    refine sm_w3 hm hI (by omega) (fun σ hi => ?_)
    rw [Mg4 hm, bs, hi.2.1, nI_add]
    exact sm_p4 hm hi (fun σ hi => hK _ _ (by omega) hi)
  | succ d ih =>
    intro t f σ hj hf hI
    obtain ⟨f, rfl⟩ : ∃ y, f = y + 1 := ⟨f - 1, by omega⟩
    unfold f_M_list_273
    rw [e_o hm, bs, hq σ _ hI, xb_mk, if_neg (nI_ge (by omega) (by omega)), Mr3 hm, bs, Mg4 hm, bs, hI.2.1, Mr6 hm, bs, Ma6 hm (by omega), bs, nI_add, Nat.add_assoc P t 1]
    refine sm_w3 hm hI (by omega) (fun σ hi => ?_)
    rw [Mg4 hm, bs, hi.2.1, nI_add, Nat.add_assoc c0 t 1]
    exact sm_p4 hm hi (fun σ hi => ih (t + 1) f σ (by omega) (by omega) hi)
/-- what is read of a symbol that is listed, at any state of the writing -/
theorem li_sym {o n k : Nat} (hm : m ≤ h.length) (hF : 24 < F) (hO : OBl σ0 o n) (hk1 : 1 ≤ k) (hk : k < oM (cb (gA σ0 6) o n)) : ∃ B W V P Y, (nI B ≠ 0 → Y ≤ 20 ∧ P + Y < 65536) ∧ ∀ σ c, OWi σ0 σ c → f_M_bind F m (nI o) (nI k) (mh m h σ) = some (nI B, mh m h σ) ∧ f_M_where F m (nI o) (nI k) (mh m h σ) = some (nI W, mh m h σ) ∧ f_M_value F m (nI o) (nI k) (mh m h σ) = some (V, mh m h σ) ∧ (nI B ≠ 0 → (∃ v, f_M_letterOf F m (nI o) (nI k) (mh m h σ) = some (v, mh m h σ)) ∧ f_M_nameAt F m (nI o) (nI k) (mh m h σ) = some (nI P, mh m h σ) ∧ f_M_nameEnd F m (nI o) (nI k) (mh m h σ) = some (nI (P + Y), mh m h σ)) := by
  obtain ⟨hB, hon, he⟩ := id hO
  obtain ⟨hw, hyo, _⟩ := eObj_0 he
  have hX : oP (cb (gA σ0 6) o n) (oX (cb (gA σ0 6) o n)) + oZ (cb (gA σ0 6) o n) (oX (cb (gA σ0 6) o n)) ≤ n := by
    have hY : oY (cb (gA σ0 6) o n) ≠ 0 := fun e => by unfold oM at hk; rw [if_pos e] at hk; exact absurd hk (Nat.not_lt_zero k)
    obtain ⟨_, _, x1, x2⟩ := hw.2 hY
    exact hw.1.2.2.2.1 _ x1 (by rw [x2]; decide) (by rw [x2]; decide)
  have hG : nI (yB (cb (gA σ0 6) o n) k) ≠ 0 → yG (cb (gA σ0 6) o n) k = true := fun hBn => (yOK_n (hyo k hk1 hk) (fun e => hBn (by rw [e]; rfl))).2.1
  refine ⟨yB (cb (gA σ0 6) o n) k, yW (cb (gA σ0 6) o n) k, lN (yV (cb (gA σ0 6) o n) k), o + (oP (cb (gA σ0 6) o n) (oX (cb (gA σ0 6) o n)) + yN (cb (gA σ0 6) o n) k), yL (cb (gA σ0 6) o n) k, fun hBn => ?_, fun σ c hI => ?_⟩
  · obtain ⟨g1, g2, g3⟩ := yG_n (hG hBn)
    refine ⟨g2, ?_⟩
    generalize oP (cb (gA σ0 6) o n) (oX (cb (gA σ0 6) o n)) = p1 at *
    generalize oZ (cb (gA σ0 6) o n) (oX (cb (gA σ0 6) o n)) = p2 at *
    generalize yN (cb (gA σ0 6) o n) k = p3 at *
    generalize yL (cb (gA σ0 6) o n) k = p4 at *
    omega
  · have e6 := OWi_6 hI
    have hb : mb (mh m h σ) m (gA σ0 6) := by rw [← e6]; exact Mmb hm (by rw [e6]; exact hB)
    have hrk := w1_rk hw.1 hon
    have h1 := hw.1.2.1.1
    have hyp := w2_y hw hk
    refine ⟨q_bind hb hF hrk h1 hyp, q_where hb hF hrk h1 hyp, q_value hb hF hrk h1 hyp, fun hBn => ⟨so_letter hm hF (by rw [e6]; exact hB) (by rw [e6]; exact hw) hon (by rw [e6]; exact hk) (by rw [e6]; exact hyo k hk1 hk), q_nameAt hb hF hw hon hk, ?_⟩⟩
    have q := q_nameEnd (F := F) (σ := σ) (o := o) (n := n) (k := k) hm (by rw [e6]; exact hB) hF (by rw [e6]; exact hw) hon (by rw [e6]; exact hk) (by rw [e6]; exact hG hBn)
    rw [e6] at q
    exact q
end MLI
