/-! the signatures of groups, in the reference -/
def RSg (σ : px_S) (sg : List (List Nat)) : Prop := gI σ 70 = nI sg.length ∧ sg.length ≤ 1536 ∧ ∀ i w, sg[i]? = some w → okN w ∧ ∃ p, gA σ 71 i = nI p ∧ gA σ 72 i = nI (p + w.length) ∧ p + w.length ≤ 65536 ∧ srcT (gA σ 6) p w
section MGA
variable {F m p : Nat} {h : px_H} {σ : px_S} {sg : List (List Nat)} {v w : List Nat} {k30 : Nat → Int32 → Int32 → Int32 → px_H → Option (Int32 × px_H)}
theorem q_iA_71f {i k f : Nat} {y z : Int32} (hf : 0 < f) : f_M_isAgain_71 F k30 f m y z (nI i) (bI false) (nI k) (mh m h σ) = k30 m y z (nI (i + 1)) (mh m h σ) := by
  obtain ⟨f, rfl⟩ : ∃ x, f = x + 1 := ⟨f - 1, by omega⟩
  unfold f_M_isAgain_71 f_M_isAgain_125
  rw [if_pos (show bI false = 0 from rfl), nI_add]
  split
  · rfl
  · rfl
theorem q_iA_71 (hm : m ≤ h.length) (hr : RSg σ sg) (hs : srcT (gA σ 6) p w) (hw : okN w) (hM : p + w.length ≤ 65536) {i : Nat} (hv : sg[i]? = some v) (hl : v.length = w.length) : ∀ (d k f : Nat), k + d = v.length → d < f → f_M_isAgain_71 F k30 f m (nI p) (nI (p + w.length)) (nI i) (bI true) (nI k) (mh m h σ) = (if v.drop k = w.drop k then some (bI true, mh m h σ) else k30 m (nI p) (nI (p + w.length)) (nI (i + 1)) (mh m h σ)) := by
  have hi : i < sg.length := (List.getElem?_eq_some_iff.mp hv).1
  have hwl := hr.2.1
  obtain ⟨ok, a, e1, e2, e3, e4⟩ := hr.2.2 i v hv
  have ok1 := ok.1
  intro d
  induction d with
  | zero =>
    intro k f hk hf
    obtain ⟨f, rfl⟩ : ∃ x, f = x + 1 := ⟨f - 1, by omega⟩
    unfold f_M_isAgain_71 f_M_isAgain_125 f_M_isAgain_130
    rw [pk_sub (by omega), Nat.add_sub_cancel_left, if_pos (nI_le (by omega) (by omega)), if_neg (show ¬ bI true = 0 by decide), List.drop_eq_nil_of_le (by omega), List.drop_eq_nil_of_le (by omega), if_pos rfl]
    rfl
  | succ d ih =>
    intro k f hk hf
    obtain ⟨f, rfl⟩ : ∃ x, f = x + 1 := ⟨f - 1, by omega⟩
    have hkv : k < v.length := by omega
    obtain ⟨x, hx⟩ : ∃ x, v[k]? = some x := ⟨v[k], List.getElem?_eq_getElem hkv⟩
    obtain ⟨y, hy⟩ : ∃ y, w[k]? = some y := ⟨w[k]'(by omega), List.getElem?_eq_getElem (by omega)⟩
    have hx2 := ok.2 x (List.mem_of_getElem? hx)
    have hy2 := hw.2 y (List.mem_of_getElem? hy)
    unfold f_M_isAgain_71 f_M_isAgain_117
    rw [pk_sub (by omega), Nat.add_sub_cancel_left, if_neg (nI_ge (by omega) (by omega)), if_neg (show ¬ bI true = 0 by decide), Mr6 hm, bs, Mr71 hm, bs, Ma71 hm (by omega), bs, e1, nI_add, Ma6 hm (by omega), bs, e4 k x hx, bs, nI_add, Ma6 hm (by omega), bs, hs k y hy, nI_add]
    by_cases c : x = y
    · rw [if_pos (by rw [c]), show nI 1 = bI true from rfl, ih (k + 1) f (by omega) (by omega)]
      by_cases c2 : v.drop (k + 1) = w.drop (k + 1)
      · rw [if_pos c2, if_pos ((drop_eq hkv hl).mpr ⟨by rw [hx, hy, c], c2⟩)]
      · rw [if_neg c2, if_neg (fun q => c2 ((drop_eq hkv hl).mp q).2)]
    · rw [if_neg (fun q => c ((byte_inj hx2 hy2).mp q)), show nI 0 = bI false from rfl, q_iA_71f (by omega), if_neg (fun q => c (by
        have := ((drop_eq hkv hl).mp q).1
        rw [hx, hy] at this
        exact Option.some.inj this))]
theorem q_iA_30 (hm : m ≤ h.length) (hF : 20 < F) (hr : RSg σ sg) (hs : srcT (gA σ 6) p w) (hw : okN w) (hM : p + w.length ≤ 65536) : ∀ (d i f : Nat), i + d = sg.length → d < f → f_M_isAgain_30 F f m (nI p) (nI (p + w.length)) (nI i) (mh m h σ) = (if (idx w i (sg.drop i)).isSome = true then some (bI true, mh m h σ) else f_M_isAgain_138 F m (nI p) (nI (p + w.length)) (mh m h σ)) := by
  have hl := hr.2.1
  intro d
  induction d with
  | zero =>
    intro i f hi hf
    obtain ⟨f, rfl⟩ : ∃ x, f = x + 1 := ⟨f - 1, by omega⟩
    unfold f_M_isAgain_30
    rw [Mg70 hm, bs, hr.1, if_pos (nI_le (by omega) (by omega)), List.drop_eq_nil_of_le (by omega), if_neg (by unfold idx; decide)]
  | succ d ih =>
    intro i f hi hf
    obtain ⟨f, rfl⟩ : ∃ x, f = x + 1 := ⟨f - 1, by omega⟩
    have hil : i < sg.length := by omega
    obtain ⟨v, hv⟩ : ∃ v, sg[i]? = some v := ⟨sg[i], List.getElem?_eq_getElem hil⟩
    have hd : sg.drop i = v :: sg.drop (i + 1) := by
      rw [List.drop_eq_getElem_cons hil]
      rw [List.getElem?_eq_getElem hil] at hv
      cases hv
      rfl
    obtain ⟨ok, a, e1, e2, e3, e4⟩ := hr.2.2 i v hv
    have ok1 := ok.1
    have ok2 := hw.1
    unfold f_M_isAgain_30 f_M_isAgain_66
    rw [Mg70 hm, bs, hr.1, if_neg (nI_ge (by omega) (by omega)), Mr72 hm, bs, Ma72 hm (by omega), bs, Mr71 hm, bs, Ma71 hm (by omega), bs, e1, e2, pk_sub (by omega), Nat.add_sub_cancel_left, pk_sub (by omega), Nat.add_sub_cancel_left, hd]
    unfold idx
    by_cases c : v.length = w.length
    · rw [if_pos (by rw [c]), show nI 1 = bI true from rfl, q_iA_71 hm hr hs hw hM hv c v.length 0 F (by omega) (by omega), List.drop_zero, List.drop_zero]
      by_cases c2 : v = w
      · rw [if_pos c2, if_pos c2, if_pos (show (some i).isSome = true from rfl)]
      · rw [if_neg c2, if_neg c2, ih (i + 1) f (by omega) (by omega)]
    · have := q_iA_71f (F := F) (m := m) (h := h) (σ := σ) (k30 := f_M_isAgain_30 F f) (i := i) (k := 0) (y := nI p) (z := nI (p + w.length)) (f := F) (by omega)
      rw [show bI false = nI 0 from rfl] at this
      rw [if_neg (fun q => c ((nI_eq (by omega) (by omega)).mp q)), this, if_neg (show ¬ v = w from fun q => c (by rw [q])), ih (i + 1) f (by omega) (by omega)]
/-- only the signatures have changed -/
def frS (σ σ' : px_S) : Prop := (∀ k, k ≠ 70 → gI σ' k = gI σ k) ∧ (∀ k, gJ σ' k = gJ σ k) ∧ (∀ k, k ≠ 71 → k ≠ 72 → gA σ' k = gA σ k) ∧ (∀ k, gB σ' k = gB σ k)
theorem q_isAgain {o n i : Nat} (hm : m ≤ h.length) (hF : 1536 < F) (hB : ∀ k, isB (gA σ 6 k)) (hw : w2 (cb (gA σ 6) o n) n) (hn : o + n ≤ 65536) (hi : i < oS (cb (gA σ 6) o n)) (hI : oI (cb (gA σ 6) o n) i < oM (cb (gA σ 6) o n)) (hg : yG (cb (gA σ 6) o n) (oI (cb (gA σ 6) o n) i) = true) (hr : RSg σ sg) (hl : sg.length < 1536) : ∃ σ', f_M_isAgain F m (nI o) (nI i) (mh m h σ) = some (bI (idx (yT (cb (gA σ 6) o n) (oI (cb (gA σ 6) o n) i)) 0 sg).isSome, mh m h σ') ∧ RSg σ' (ent (yT (cb (gA σ 6) o n) (oI (cb (gA σ 6) o n) i)) sg) ∧ frS σ σ' := by
  have hrk := w1_rk hw.1 hn
  obtain ⟨s1, s2, s3, s4⟩ := yT_src hB hw hn hI hg
  unfold f_M_isAgain
  rw [e_o hm, bs, q_info (Mmb hm hB) (by omega) hrk hi, xb_mk, e_o hm, bs, lN_i, q_nameAt (Mmb hm hB) (by omega) hw hn hI, xb_mk, e_o hm, bs, q_info (Mmb hm hB) (by omega) hrk hi, xb_mk, e_o hm, bs, lN_i, q_nameEnd hm hB (by omega) hw hn hI hg, xb_mk]
  rw [← s3] at s4 ⊢
  generalize yT (cb (gA σ 6) o n) (oI (cb (gA σ 6) o n) i) = w at *
  generalize o + (oP (cb (gA σ 6) o n) (oX (cb (gA σ 6) o n)) + yN (cb (gA σ 6) o n) (oI (cb (gA σ 6) o n) i)) = p at *
  rw [q_iA_30 hm (by omega) hr s1 s2 s4 sg.length 0 F (by omega) (by omega), List.drop_zero]
  unfold ent
  by_cases c : (idx w 0 sg).isSome = true
  · rw [if_pos c, if_pos c, c]
    exact ⟨σ, rfl, hr, fun _ _ => rfl, fun _ => rfl, fun _ _ _ => rfl, fun _ => rfl⟩
  · rw [if_neg c, if_neg c, Bool.eq_false_iff.mpr c]
    unfold f_M_isAgain_138
    rw [Mr71 hm, bs, Mg70 hm, bs, hr.1, Ms71 hm hl, bs, Mr72 hm, bs, Mg70 hm, bs, gI_sA, hr.1, Ms72 hm hl, bs, Mg70 hm, bs, gI_sA, gI_sA, hr.1, nI_add, Mp70 hm, bs]
    refine ⟨_, rfl, ⟨?_, ?_, ?_⟩, fun q hq => by rw [gI_sI, if_neg hq, gI_sA, gI_sA], fun _ => rfl, fun q a b => by rw [gA_sI, gA_sA, if_neg b, gA_sA, if_neg a], fun _ => rfl⟩
    · rw [List.length_append]; rfl
    · rw [List.length_append]; exact hl
    · intro j v hv
      show okN v ∧ ∃ a, upd (gA σ 71) sg.length (nI p) j = nI a ∧ upd (gA σ 72) sg.length (nI (p + w.length)) j = nI (a + v.length) ∧ a + v.length ≤ 65536 ∧ srcT (gA σ 6) a v
      by_cases cj : j < sg.length
      · rw [List.getElem?_append_left cj] at hv
        rw [upd_ne (by omega), upd_ne (by omega)]
        exact hr.2.2 j v hv
      · have hj : j = sg.length := by
          have := (List.getElem?_eq_some_iff.mp hv).1
          rw [List.length_append] at this
          have h1 : [w].length = 1 := rfl
          omega
        rw [hj, List.getElem?_append_right (Nat.le_refl _), Nat.sub_self] at hv
        rw [← Option.some.inj hv, hj, upd_eq, upd_eq]
        exact ⟨s2, p, rfl, rfl, s4, s1⟩
end MGA
