/-! the reference's names of a link: find, entered -/
/-- the names of a link, as the reference has them -/
def RNm (σ : px_S) (ws : List (List Nat)) : Prop := gI σ 20 = nI ws.length ∧ ws.length ≤ 4096 ∧ ∀ i w, ws[i]? = some w → okN w ∧ gA σ 22 i = nI w.length ∧ ∀ j x, w[j]? = some x → gA σ 21 (20 * i + j) = (nI x).toInt8.toInt32
/-- the bytes w stand in T from p on -/
def srcT (T : Nat → Int32) (p : Nat) (w : List Nat) : Prop := ∀ j x, w[j]? = some x → T (p + j) = (nI x).toInt8.toInt32
theorem drop_eq {v w : List Nat} {k : Nat} (h : k < v.length) (hl : v.length = w.length) : v.drop k = w.drop k ↔ v[k]? = w[k]? ∧ v.drop (k + 1) = w.drop (k + 1) := by
  have h2 : k < w.length := by omega
  rw [List.drop_eq_getElem_cons h, List.drop_eq_getElem_cons h2, List.getElem?_eq_getElem h, List.getElem?_eq_getElem h2, List.cons.injEq, Option.some.injEq]
theorem byte_inj {x y : Nat} (hx : x < 256) (hy : y < 256) : (nI x).toInt8.toInt32 = (nI y).toInt8.toInt32 ↔ x = y := by
  rw [isB_inj (isB_n8 y hy) hx, b8_n y hy]
section MNM
variable {F m : Nat} {h : px_H} {σ : px_S} {pa p M : Nat} {T : Nat → Int32} {ws : List (List Nat)} {v w : List Nat} {k3 : Nat → Nat → Int32 → Int32 → Int32 → px_H → Option (Int32 × px_H)}
theorem q_find_35f (hm : m ≤ h.length) (hr : RNm σ ws) {i k f : Nat} {y z : Int32} (hv : ws[i]? = some v) (hf : 0 < f) : f_M_find_35 F k3 f m pa y z (nI i) (bI false) (nI k) (mh m h σ) = k3 m pa y z (nI (i + 1)) (mh m h σ) := by
  obtain ⟨f, rfl⟩ : ∃ x, f = x + 1 := ⟨f - 1, by omega⟩
  have hi : i < ws.length := (List.getElem?_eq_some_iff.mp hv).1
  have hl := hr.2.1
  unfold f_M_find_35 f_M_find_87
  rw [Mr22 hm, bs, Ma22 hm (by omega), bs, if_pos (show bI false = 0 from rfl), nI_add]
  split
  · rfl
  · rfl
theorem q_find_35 (hm : m ≤ h.length) (hr : RNm σ ws) (hT : ∀ i, i < M → xaI (mh m h σ) 0 pa (nI i) = some (T i)) (hs : srcT T p w) (hw : ∀ x, x ∈ w → x < 256) (hM : p + w.length ≤ M) {i : Nat} {z : Int32} (hv : ws[i]? = some v) (hl : v.length = w.length) : ∀ (d k f : Nat), k + d = v.length → d < f → f_M_find_35 F k3 f m pa (nI p) z (nI i) (bI true) (nI k) (mh m h σ) = (if v.drop k = w.drop k then some (nI i, mh m h σ) else k3 m pa (nI p) z (nI (i + 1)) (mh m h σ)) := by
  have hi : i < ws.length := (List.getElem?_eq_some_iff.mp hv).1
  have hwl := hr.2.1
  obtain ⟨ok, e1, e2⟩ := hr.2.2 i v hv
  have ok1 := ok.1
  intro d
  induction d with
  | zero =>
    intro k f hk hf
    obtain ⟨f, rfl⟩ : ∃ x, f = x + 1 := ⟨f - 1, by omega⟩
    unfold f_M_find_35 f_M_find_87 f_M_find_92
    rw [Mr22 hm, bs, Ma22 hm (by omega), bs, e1, if_pos (nI_le (by omega) (by omega)), if_neg (show ¬ bI true = 0 by decide), List.drop_eq_nil_of_le (by omega), List.drop_eq_nil_of_le (by omega), if_pos rfl]
  | succ d ih =>
    intro k f hk hf
    obtain ⟨f, rfl⟩ : ∃ x, f = x + 1 := ⟨f - 1, by omega⟩
    have hkv : k < v.length := by omega
    obtain ⟨x, hx⟩ : ∃ x, v[k]? = some x := ⟨v[k], List.getElem?_eq_getElem hkv⟩
    obtain ⟨y, hy⟩ : ∃ y, w[k]? = some y := ⟨w[k]'(by omega), List.getElem?_eq_getElem (by omega)⟩
    have hx2 := ok.2 x (List.mem_of_getElem? hx)
    have hy2 := hw y (List.mem_of_getElem? hy)
    unfold f_M_find_35 f_M_find_79
    rw [Mr22 hm, bs, Ma22 hm (by omega), bs, e1, if_neg (nI_ge (by omega) (by omega)), if_neg (show ¬ bI true = 0 by decide), Mr21 hm, bs, pk_mul, nI_add, Ma21 hm (by omega), bs, e2 k x hx, nI_add, hT (p + k) (by omega), bs, hs k y hy, nI_add]
    by_cases c : x = y
    · rw [if_pos (by rw [c]), show nI 1 = bI true from rfl, ih (k + 1) f (by omega) (by omega)]
      by_cases c2 : v.drop (k + 1) = w.drop (k + 1)
      · rw [if_pos c2, if_pos ((drop_eq hkv hl).mpr ⟨by rw [hx, hy, c], c2⟩)]
      · rw [if_neg c2, if_neg (fun q => c2 ((drop_eq hkv hl).mp q).2)]
    · rw [if_neg (fun q => c ((byte_inj hx2 hy2).mp q)), show nI 0 = bI false from rfl, q_find_35f hm hr hv (by omega), if_neg (fun q => c (by
        have := ((drop_eq hkv hl).mp q).1
        rw [hx, hy] at this
        exact Option.some.inj this))]
theorem q_find_3 (hm : m ≤ h.length) (hF : 20 < F) (hr : RNm σ ws) (hT : ∀ i, i < M → xaI (mh m h σ) 0 pa (nI i) = some (T i)) (hs : srcT T p w) (hw : ∀ x, x ∈ w → x < 256) (hM : p + w.length ≤ M) (hM2 : M < 2 ^ 31) : ∀ (d i f : Nat), i + d = ws.length → d < f → f_M_find_3 F f m pa (nI p) (nI (p + w.length)) (nI i) (mh m h σ) = some (tdA (idx w i (ws.drop i)), mh m h σ) := by
  have hl := hr.2.1
  intro d
  induction d with
  | zero =>
    intro i f hi hf
    obtain ⟨f, rfl⟩ : ∃ x, f = x + 1 := ⟨f - 1, by omega⟩
    unfold f_M_find_3 f_M_find_101
    rw [Mg20 hm, bs, hr.1, if_pos (nI_le (by omega) (by omega)), List.drop_eq_nil_of_le (by omega)]
    rfl
  | succ d ih =>
    intro i f hi hf
    obtain ⟨f, rfl⟩ : ∃ x, f = x + 1 := ⟨f - 1, by omega⟩
    have hil : i < ws.length := by omega
    obtain ⟨v, hv⟩ : ∃ v, ws[i]? = some v := ⟨ws[i], List.getElem?_eq_getElem hil⟩
    have hd : ws.drop i = v :: ws.drop (i + 1) := by
      rw [List.drop_eq_getElem_cons hil]
      rw [List.getElem?_eq_getElem hil] at hv
      cases hv
      rfl
    obtain ⟨ok, e1, e2⟩ := hr.2.2 i v hv
    have ok1 := ok.1
    unfold f_M_find_3 f_M_find_30
    rw [Mg20 hm, bs, hr.1, if_neg (nI_ge (by omega) (by omega)), Mr22 hm, bs, Ma22 hm (by omega), bs, e1, pk_sub (by omega), Nat.add_sub_cancel_left, hd]
    unfold idx
    by_cases c : v.length = w.length
    · rw [if_pos (by rw [c]), show nI 1 = bI true from rfl, q_find_35 hm hr hT hs hw hM hv c v.length 0 F (by omega) (by omega), List.drop_zero, List.drop_zero]
      by_cases c2 : v = w
      · rw [if_pos c2, if_pos c2]
        rfl
      · rw [if_neg c2, if_neg c2, ih (i + 1) f (by omega) (by omega)]
    · have := q_find_35f (F := F) (pa := pa) (k3 := f_M_find_3 F f) (k := 0) (y := nI p) (z := nI (p + w.length)) hm hr hv (f := F) (by omega)
      rw [show bI false = nI 0 from rfl] at this
      rw [if_neg (fun q => c ((nI_eq (by omega) (by omega)).mp q)), this, if_neg (fun q => c (by rw [q])), ih (i + 1) f (by omega) (by omega)]
theorem q_find (hm : m ≤ h.length) (hF : 4096 < F) (hr : RNm σ ws) (hT : ∀ i, i < M → xaI (mh m h σ) 0 pa (nI i) = some (T i)) (hs : srcT T p w) (hw : ∀ x, x ∈ w → x < 256) (hM : p + w.length ≤ M) (hM2 : M < 2 ^ 31) : f_M_find F m pa (nI p) (nI (p + w.length)) (mh m h σ) = some (tdA (idx w 0 ws), mh m h σ) := by
  have := hr.2.1
  unfold f_M_find
  rw [q_find_3 hm (by omega) hr hT hs hw hM hM2 ws.length 0 F (by omega) (by omega), List.drop_zero]
/-- the place of w in ws, or behind them -/
def plc (w : List Nat) (ws : List (List Nat)) : Nat := (idx w 0 ws).getD ws.length
/-- the names with w among them -/
def ent (w : List Nat) (ws : List (List Nat)) : List (List Nat) := if (idx w 0 ws).isSome = true then ws else ws ++ [w]
/-- a new name's fields -/
def frI (c : Nat) (σ σ' : px_S) : Prop := (∀ k, k ≠ 20 → gI σ' k = gI σ k) ∧ (∀ k, gJ σ' k = gJ σ k) ∧ (∀ k, k ≠ 21 → k ≠ 22 → k ≠ 23 → k ≠ 24 → k ≠ 28 → k ≠ 73 → gA σ' k = gA σ k) ∧ (∀ k, k ≠ 30 → gB σ' k = gB σ k) ∧ gA σ' 23 = upd (gA σ 23) c (nI 0) ∧ gA σ' 24 = upd (gA σ 24) c (Int32.ofInt (-1)) ∧ gA σ' 28 = upd (gA σ 28) c (nI 0) ∧ gA σ' 73 = upd (gA σ 73) c (nI 0) ∧ gB σ' 30 = vp_updL (gB σ 30) c (lN 0)
theorem q_entered_36 {ks c : Nat} (hm : m ≤ h.length) (hT : ∀ (σ : px_S) i, i < M → xaI (mh m h σ) 0 pa (nI i) = some (gA σ ks i)) (hks : ks ≠ 21) (hc : c < 4096) (hw : okN w) (hM : p + w.length ≤ M) : ∀ (d k f : Nat) (σ : px_S) (B : Nat → Int32), k + d = w.length → d < f → gA σ 22 c = nI w.length → srcT (gA σ ks) p w → gA σ 21 = put B (fun j => gA σ ks (p + j)) (20 * c) k → f_M_entered_36 F f m pa (nI p) (nI c) (nI k) (mh m h σ) = f_M_entered_73 F m (nI c) (mh m h (sA σ 21 (put B (fun j => gA σ ks (p + j)) (20 * c) w.length))) := by
  have hwl := hw.1
  intro d
  induction d with
  | zero =>
    intro k f σ B hk hf h22 hs h21
    obtain ⟨f, rfl⟩ : ∃ x, f = x + 1 := ⟨f - 1, by omega⟩
    unfold f_M_entered_36
    rw [Mr22 hm, bs, Ma22 hm (by omega), bs, h22, if_pos (nI_le (by omega) (by omega)), show w.length = k by omega, ← h21, sA_self]
  | succ d ih =>
    intro k f σ B hk hf h22 hs h21
    obtain ⟨f, rfl⟩ : ∃ x, f = x + 1 := ⟨f - 1, by omega⟩
    obtain ⟨y, hy⟩ : ∃ y, w[k]? = some y := ⟨w[k]'(by omega), List.getElem?_eq_getElem (by omega)⟩
    have hB : isB (gA σ ks (p + k)) := by
      rw [hs k y hy]
      exact isB_n8 y (hw.2 y (List.mem_of_getElem? hy))
    have e : gA (sA σ 21 (put B (fun j => gA σ ks (p + j)) (20 * c) (k + 1))) ks = gA σ ks := by rw [gA_sA, if_neg hks]
    have hps := put_s B (fun j => gA σ ks (p + j)) (20 * c) k
    unfold f_M_entered_36
    rw [Mr22 hm, bs, Ma22 hm (by omega), bs, h22, if_neg (nI_ge (by omega) (by omega)), Mr21 hm, bs, nI_add, hT σ (p + k) (by omega), bs, pk_mul, nI_add, isB_n hB, Ms21 hm (by omega), bs, h21]
    rw [show upd (put B (fun j => gA σ ks (p + j)) (20 * c) k) (20 * c + k) (gA σ ks (p + k)) = _ from hps, nI_add]
    have := ih (k + 1) f (sA σ 21 (put B (fun j => gA σ ks (p + j)) (20 * c) (k + 1))) B (by omega) (by omega) h22 (by rw [e]; exact hs) (by rw [e]; rfl)
    rw [e, sA_sA] at this
    exact this
theorem q_entered {ks : Nat} (hm : m ≤ h.length) (hF : 4096 < F) (hr : RNm σ ws) (hT : ∀ (σ : px_S) i, i < M → xaI (mh m h σ) 0 pa (nI i) = some (gA σ ks i)) (hks : ks ≠ 21) (hks2 : ks ≠ 22) (hw : okN w) (hs : srcT (gA σ ks) p w) (hM : p + w.length ≤ M) (hM2 : M < 2 ^ 31) (hl : ws.length < 4096) : ∃ σ', f_M_entered F m pa (nI p) (nI (p + w.length)) (mh m h σ) = some (nI (plc w ws), mh m h σ') ∧ RNm σ' (ent w ws) ∧ ((idx w 0 ws).isSome = true → σ' = σ) ∧ ((idx w 0 ws).isSome = false → frI ws.length σ σ') := by
  have hwl := hw.1
  unfold f_M_entered
  rw [e_o hm, bs, q_find hm hF hr (hT σ) hs hw.2 hM hM2, xb_mk]
  unfold plc ent
  cases e : idx w 0 ws with
  | some i =>
    have hi := idx_lt e
    rw [if_neg (show ¬ tdA (some i) < 0 from nI_pos (by omega))]
    exact ⟨σ, rfl, hr, fun _ => rfl, fun q => nomatch q⟩
  | none =>
    rw [if_pos (show tdA none < 0 from m1_neg), Mg20 hm, bs, hr.1, Mr22 hm, bs, pk_sub (by omega), Nat.add_sub_cancel_left, Ms22 hm hl, bs]
    obtain ⟨σ1, hσ1⟩ : ∃ s, s = sA σ 22 (upd (gA σ 22) ws.length (nI w.length)) := ⟨_, rfl⟩
    have k1 : gA σ1 ks = gA σ ks := by rw [hσ1, gA_sA, if_neg hks2]
    have k2 : gA σ1 21 = gA σ 21 := by rw [hσ1, gA_sA, if_neg (by decide)]
    have k3 : gA σ1 22 = upd (gA σ 22) ws.length (nI w.length) := by rw [hσ1, gA_sA, if_pos rfl]
    rw [← hσ1, q_entered_36 (F := F) (σ := σ1) hm hT hks hl hw hM w.length 0 F (gA σ 21) (by omega) (by omega) (by rw [k3, upd_eq]) (by rw [k1]; exact hs) (by rw [k2]; exact (put_0 _ _ _).symm)]
    unfold f_M_entered_73
    rw [Mr23 hm, bs, Ms23 hm hl, bs, Mr28 hm, bs, show nI 0 &&& 1 = nI 0 from rfl, Ms28 hm hl, bs, Mr73 hm, bs, Ms73 hm hl, bs, Mr24 hm, bs, Ms24 hm hl, bs, Mr30 hm, bs, Ms30 hm hl, bs, Mg20 hm, bs]
    obtain ⟨B, hB⟩ : ∃ B, B = put (gA σ 21) (fun j => gA σ1 ks (p + j)) (20 * ws.length) w.length := ⟨_, rfl⟩
    rw [← hB]
    have g20 : gI σ1 20 = nI ws.length := by rw [hσ1]; exact hr.1
    rw [gI_sB, gI_sA, gI_sA, gI_sA, gI_sA, gI_sA, g20, nI_add, Mp20 hm, bs]
    refine ⟨_, rfl, show RNm _ (ws ++ [w]) from ⟨?_, ?_, ?_⟩, fun q => (nomatch q), fun _ => ?_⟩
    · rw [List.length_append]; rfl
    · rw [List.length_append]; exact hl
    · intro i v hv
      show okN v ∧ gA σ1 22 i = nI v.length ∧ ∀ j x, v[j]? = some x → B (20 * i + j) = (nI x).toInt8.toInt32
      rw [k3, hB]
      by_cases ci : i < ws.length
      · rw [List.getElem?_append_left ci] at hv
        obtain ⟨a1, a2, a3⟩ := hr.2.2 i v hv
        refine ⟨a1, by rw [upd_ne (by omega)]; exact a2, fun j x hx => ?_⟩
        have hj : j < v.length := (List.getElem?_eq_some_iff.mp hx).1
        have := a1.1
        unfold put
        rw [if_neg (by omega)]
        exact a3 j x hx
      · have hi : i = ws.length := by
          have := (List.getElem?_eq_some_iff.mp hv).1
          rw [List.length_append] at this
          have h1 : [w].length = 1 := rfl
          omega
        rw [hi, List.getElem?_append_right (Nat.le_refl _), Nat.sub_self] at hv
        have hv2 : v = w := (Option.some.inj hv).symm
        rw [hi, hv2]
        refine ⟨hw, upd_eq, fun j x hx => ?_⟩
        have hj : j < w.length := (List.getElem?_eq_some_iff.mp hx).1
        unfold put
        rw [if_pos (by omega), Nat.add_sub_cancel_left, k1]
        exact hs j x hx
    · subst hσ1
      refine ⟨fun k hk => by rw [gI_sI, if_neg hk]; rfl, fun _ => rfl, fun k a1 a2 a3 a4 a5 a6 => ?_, fun k hk => ?_, rfl, rfl, rfl, rfl, rfl⟩
      · simp only [gA_sI, gA_sB, gA_sA, if_neg a1, if_neg a2, if_neg a3, if_neg a4, if_neg a5, if_neg a6]
      · simp only [gB_sI, gB_sB, gB_sA, if_neg hk]
end MNM
