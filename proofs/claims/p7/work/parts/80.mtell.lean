/-! tellNames of the reference -/
def setR (xs : px_NL) (i : Nat) (f : px_NR → px_NR) : px_NL := match xs[i]? with
  | some x => xs.set i (x.1, f x.2)
  | none => xs
theorem setR_at {xs : px_NL} {i : Nat} {w : List Nat} {r : px_NR} {f : px_NR → px_NR} (h : xs[i]? = some (w, r)) : setR xs i f = xs.set i (w, f r) := by
  unfold setR
  rw [h]
theorem setR_len {xs : px_NL} {i : Nat} {f : px_NR → px_NR} : (setR xs i f).length = xs.length := by
  unfold setR
  split
  · rw [List.length_set]
  · rfl
theorem entL_len {w : List Nat} {xs : px_NL} : (entL w xs).length ≤ xs.length + 1 := by
  unfold entL
  split
  · omega
  · rw [List.length_append]; exact Nat.le_refl _
/-- the order of definitions -/
def RO (σ : px_S) (od : List Nat) : Prop := gI σ 48 = nI od.length ∧ od.length ≤ 4096 ∧ ∀ i d, od[i]? = some d → gA σ 49 i = nI d
def gvR (v : Int64) (r : px_NR) : px_NR := (3, r.2.1, r.2.2.1, r.2.2.2.1, v, r.2.2.2.2.2)
def wsR (r : px_NR) : px_NR := (r.1, true, r.2.2)
def tlG : List (List Nat × Int64) → px_NL × List Nat → px_NL × List Nat
  | [], s => s
  | g :: l, s => tlG l (setR (entL g.1 s.1) (plc g.1 (s.1.map Prod.fst)) (gvR g.2), s.2 ++ [plc g.1 (s.1.map Prod.fst)])
def tlW : List (List Nat) → px_NL → px_NL
  | [], xs => xs
  | w :: l, xs => tlW l (setR (entL w xs) (plc w (xs.map Prod.fst)) wsR)
/-- only the names' rows, their number and the order of definitions have changed -/
def frK (σ σ' : px_S) : Prop := (∀ k, k ≠ 20 → k ≠ 48 → gI σ' k = gI σ k) ∧ (∀ k, gJ σ' k = gJ σ k) ∧ (∀ k, k ≠ 21 → k ≠ 22 → k ≠ 23 → k ≠ 24 → k ≠ 28 → k ≠ 73 → k ≠ 49 → gA σ' k = gA σ k) ∧ (∀ k, k ≠ 30 → gB σ' k = gB σ k)
theorem frK_refl (σ : px_S) : frK σ σ := ⟨fun _ _ _ => rfl, fun _ => rfl, fun _ _ _ _ _ _ _ _ => rfl, fun _ _ => rfl⟩
theorem frK_trans {σ σ1 σ2 : px_S} (h : frK σ σ1) (g : frK σ1 σ2) : frK σ σ2 := ⟨fun k a b => (g.1 k a b).trans (h.1 k a b), fun k => (g.2.1 k).trans (h.2.1 k), fun k a1 a2 a3 a4 a5 a6 a7 => (g.2.2.1 k a1 a2 a3 a4 a5 a6 a7).trans (h.2.2.1 k a1 a2 a3 a4 a5 a6 a7), fun k a => (g.2.2.2 k a).trans (h.2.2.2 k a)⟩
theorem RG_K {σ σ' : px_S} {gs : List (List Nat × Int64)} (h : RG σ gs) (f : frK σ σ') : RG σ' gs := by
  refine ⟨(f.1 31 (by decide) (by decide)).trans h.1, RN_eq h.2.1 (f.2.2.1 33 (by decide) (by decide) (by decide) (by decide) (by decide) (by decide) (by decide)) (f.2.2.1 35 (by decide) (by decide) (by decide) (by decide) (by decide) (by decide) (by decide)), fun i x hx => ?_⟩
  rw [f.2.2.2 37 (by decide)]; exact h.2.2 i x hx
theorem RW_K {σ σ' : px_S} {ws : List (List Nat)} (h : RW σ ws) (f : frK σ σ') : RW σ' ws := ⟨(f.1 32 (by decide) (by decide)).trans h.1, RN_eq h.2 (f.2.2.1 34 (by decide) (by decide) (by decide) (by decide) (by decide) (by decide) (by decide)) (f.2.2.1 36 (by decide) (by decide) (by decide) (by decide) (by decide) (by decide) (by decide))⟩
section MTN
variable {F m : Nat} {h : px_H}
theorem q_tW (hm : m ≤ h.length) (hF : 4096 < F) : ∀ (l : List (List Nat)) (i f : Nat) (σ : px_S) (ws : List (List Nat)) (xs : px_NL), RW σ ws → ws.drop i = l → i + l.length = ws.length → l.length < f → RL σ xs → xs.length + l.length ≤ 4096 → ∃ σ', f_M_tellNames_81 F f m (nI i) (mh m h σ) = some ((), mh m h σ') ∧ RL σ' (tlW l xs) ∧ frK σ σ' ∧ gI σ' 48 = gI σ 48 ∧ gA σ' 49 = gA σ 49 := by
  intro l
  induction l with
  | nil =>
    intro i f σ ws xs hw hd hi hf hr hl
    rw [List.length_nil] at hi hf
    obtain ⟨f, rfl⟩ : ∃ x, f = x + 1 := ⟨f - 1, by omega⟩
    have := hw.2.1
    refine ⟨σ, ?_, hr, frK_refl σ, rfl, rfl⟩
    unfold f_M_tellNames_81 f_M_tellNames_126
    rw [Mg32 hm, bs, hw.1, if_pos (nI_le (by omega) (by omega))]
  | cons w l ih =>
    intro i f σ ws xs hw hd hi hf hr hl
    rw [List.length_cons] at hi hf hl
    obtain ⟨f, rfl⟩ : ∃ x, f = x + 1 := ⟨f - 1, by omega⟩
    have h16 := hw.2.1
    have hwi : ws[i]? = some w := by
      have : (ws.drop i)[0]? = some w := by rw [hd]; rfl
      rw [List.getElem?_drop, Nat.add_zero] at this
      exact this
    have hd2 : ws.drop (i + 1) = l := by
      rw [← List.tail_drop, hd]; rfl
    obtain ⟨a1, a2, a3⟩ := hw.2.2 i w hwi
    have a11 := a1.1
    obtain ⟨σ1, e1, e2, e3⟩ := q_enteredL (F := F) (p := 20 * i) (pa := m + 24) (M := 320) hm hF hr (fun σ i hi => Ma34 hm hi) (by decide) (by decide) a1 a3 (by omega) (by decide) (by omega)
    obtain ⟨r, hr1, hr2⟩ := plc_at (w := w) (xs := xs)
    obtain ⟨P, hP⟩ : ∃ P, P = plc w (xs.map Prod.fst) := ⟨_, rfl⟩
    rw [← hP] at e1 hr1 hr2
    have hel := entL_len (w := w) (xs := xs)
    have hP2 : P < 4096 := by omega
    obtain ⟨σ2, hσ2⟩ : ∃ s, s = sA σ1 28 (upd (gA σ1 28) P (nI 1)) := ⟨_, rfl⟩
    have g28 : gA σ2 28 = upd (gA σ1 28) P (nI 1) := by rw [hσ2, gA_sA, if_pos rfl]
    have gAo : ∀ k, k ≠ 28 → gA σ2 k = gA σ1 k := fun k hk => by rw [hσ2, gA_sA, if_neg hk]
    have gBo : ∀ k, gB σ2 k = gB σ1 k := fun k => by rw [hσ2]; rfl
    have gIo : ∀ k, gI σ2 k = gI σ1 k := fun k => by rw [hσ2]; rfl
    have hk : frK σ σ2 := ⟨fun k a b => (gIo k).trans (e3.1 k a), fun k => by rw [hσ2]; exact e3.2.1 k, fun k a1 a2 a3 a4 a5 a6 _ => (gAo k a5).trans (e3.2.2.1 k a1 a2 a3 a4 a5 a6), fun k a => (gBo k).trans (e3.2.2.2 k a)⟩
    have rr := e2.2 P _ hr1
    have hRL : RL σ2 (setR (entL w xs) P wsR) := by
      rw [setR_at hr1]
      refine RL_set e2 hr1 (gIo 20) (gAo 21 (by decide)) (gAo 22 (by decide)) (fun k j hk hj => ?_) (fun j _ => by rw [gBo]) ⟨?_, ?_, ?_, ?_, ?_, ?_⟩
      · by_cases c : k = 28
        · rw [c, g28, upd_ne hj]
        · rw [gAo k c]
      · rw [gAo 23 (by decide)]; exact rr.1
      · rw [g28, upd_eq]; rfl
      · rw [gAo 73 (by decide)]; exact rr.2.2.1
      · exact rBy_eq rr.2.2.2.1 (by rw [gAo 24 (by decide)]) (by rw [gAo 25 (by decide)])
      · rw [gBo]; exact rr.2.2.2.2.1
      · rw [gAo 26 (by decide), gAo 27 (by decide)]; exact rr.2.2.2.2.2
    obtain ⟨σ', i1, i2, i3, i4, i5⟩ := ih (i + 1) f σ2 ws (setR (entL w xs) P wsR) (RW_K hw hk) hd2 (by omega) (by omega) hRL (by rw [setR_len]; omega)
    refine ⟨σ', ?_, ?_, frK_trans hk i3, i4.trans ((gIo 48).trans (e3.1 48 (by decide))), i5.trans ((gAo 49 (by decide)).trans (e3.2.2.1 49 (by decide) (by decide) (by decide) (by decide) (by decide) (by decide)))⟩
    · unfold f_M_tellNames_81
      rw [Mg32 hm, bs, hw.1, if_neg (nI_ge (by omega) (by omega)), Mr34 hm, bs, Mr36 hm, bs, Ma36 hm (by omega), bs, a2, e_o hm, bs, pk_mul, nI_add, e1, xb_mk, Mr28 hm, bs, show nI 1 &&& 1 = nI 1 from rfl, Ms28 hm hP2, bs, nI_add, ← hσ2]
      exact i1
    · unfold tlW
      rw [← hP]; exact i2
theorem q_tG (hm : m ≤ h.length) (hF : 4096 < F) : ∀ (l : List (List Nat × Int64)) (i f : Nat) (σ : px_S) (gs : List (List Nat × Int64)) (xs : px_NL) (od : List Nat), RG σ gs → gs.drop i = l → i + l.length = gs.length → l.length < f → RL σ xs → xs.length + l.length ≤ 4096 → RO σ od → od.length + l.length ≤ 4096 → ∃ σ', f_M_tellNames_2 F f m (nI i) (mh m h σ) = f_M_tellNames_79 F m (mh m h σ') ∧ RL σ' (tlG l (xs, od)).1 ∧ RO σ' (tlG l (xs, od)).2 ∧ frK σ σ' := by
  intro l
  induction l with
  | nil =>
    intro i f σ gs xs od hw hd hi hf hr hl ho hol
    rw [List.length_nil] at hi hf
    obtain ⟨f, rfl⟩ : ∃ x, f = x + 1 := ⟨f - 1, by omega⟩
    have h16 := hw.2.1.1
    rw [List.length_map] at h16
    refine ⟨σ, ?_, hr, ho, frK_refl σ⟩
    unfold f_M_tellNames_2
    rw [Mg31 hm, bs, hw.1, if_pos (nI_le (by omega) (by omega))]
  | cons g l ih =>
    intro i f σ gs xs od hw hd hi hf hr hl ho hol
    rw [List.length_cons] at hi hf hl hol
    obtain ⟨f, rfl⟩ : ∃ x, f = x + 1 := ⟨f - 1, by omega⟩
    have h16 := hw.2.1.1
    rw [List.length_map] at h16
    have hgi : gs[i]? = some g := by
      have : (gs.drop i)[0]? = some g := by rw [hd]; rfl
      rw [List.getElem?_drop, Nat.add_zero] at this
      exact this
    have hd2 : gs.drop (i + 1) = l := by
      rw [← List.tail_drop, hd]; rfl
    have hwi : (gs.map Prod.fst)[i]? = some g.1 := by rw [List.getElem?_map, hgi]; rfl
    obtain ⟨a1, a2, a3⟩ := hw.2.1.2 i g.1 hwi
    have a11 := a1.1
    have a4 := hw.2.2 i g hgi
    obtain ⟨σ1, e1, e2, e3⟩ := q_enteredL (F := F) (p := 20 * i) (pa := m + 23) (M := 320) hm hF hr (fun σ i hi => Ma33 hm hi) (by decide) (by decide) a1 a3 (by omega) (by decide) (by omega)
    obtain ⟨r, hr1, hr2⟩ := plc_at (w := g.1) (xs := xs)
    obtain ⟨P, hP⟩ : ∃ P, P = plc g.1 (xs.map Prod.fst) := ⟨_, rfl⟩
    rw [← hP] at e1 hr1 hr2
    have hel := entL_len (w := g.1) (xs := xs)
    have hP2 : P < 4096 := by omega
    have ho1 := ho.1
    have ho2 := ho.2.1
    have s37 : gB σ1 37 i = g.2 := by rw [e3.2.2.2 37 (by decide)]; exact a4
    have s48 : gI σ1 48 = nI od.length := (e3.1 48 (by decide)).trans ho1
    obtain ⟨σ2, hσ2⟩ : ∃ s, s = sI (sA (sB (sA σ1 23 (upd (gA σ1 23) P (nI 3))) 30 (vp_updL (gB σ1 30) P g.2)) 49 (upd (gA σ1 49) od.length (nI P))) 48 (nI (od.length + 1)) := ⟨_, rfl⟩
    have g23 : gA σ2 23 = upd (gA σ1 23) P (nI 3) := by rw [hσ2]; rfl
    have g49 : gA σ2 49 = upd (gA σ1 49) od.length (nI P) := by rw [hσ2]; rfl
    have g30 : gB σ2 30 = vp_updL (gB σ1 30) P g.2 := by rw [hσ2]; rfl
    have gAo : ∀ k, k ≠ 23 → k ≠ 49 → gA σ2 k = gA σ1 k := fun k h1 h2 => by rw [hσ2, gA_sI, gA_sA, if_neg h2, gA_sB, gA_sA, if_neg h1]
    have gBo : ∀ k, k ≠ 30 → gB σ2 k = gB σ1 k := fun k h1 => by rw [hσ2, gB_sI, gB_sA, gB_sB, if_neg h1, gB_sA]
    have gIo : ∀ k, k ≠ 48 → gI σ2 k = gI σ1 k := fun k h1 => by rw [hσ2, gI_sI, if_neg h1, gI_sA, gI_sB, gI_sA]
    have g48 : gI σ2 48 = nI (od.length + 1) := by rw [hσ2, gI_sI, if_pos rfl]
    have hk : frK σ σ2 := ⟨fun k a b => (gIo k b).trans (e3.1 k a), fun k => by rw [hσ2]; exact e3.2.1 k, fun k a1 a2 a3 a4 a5 a6 a7 => (gAo k a3 a7).trans (e3.2.2.1 k a1 a2 a3 a4 a5 a6), fun k a => (gBo k a).trans (e3.2.2.2 k a)⟩
    have rr := e2.2 P _ hr1
    have hRL : RL σ2 (setR (entL g.1 xs) P (gvR g.2)) := by
      rw [setR_at hr1]
      refine RL_set e2 hr1 (gIo 20 (by decide)) (gAo 21 (by decide) (by decide)) (gAo 22 (by decide) (by decide)) (fun k j hk hj => ?_) (fun j hj => by rw [g30]; unfold vp_updL; exact if_neg hj) ⟨?_, ?_, ?_, ?_, ?_, fun q => nomatch q⟩
      · by_cases c : k = 23
        · rw [c, g23, upd_ne hj]
        · rw [gAo k c (by omega)]
      · rw [g23, upd_eq]; rfl
      · rw [gAo 28 (by decide) (by decide)]; exact rr.2.1
      · rw [gAo 73 (by decide) (by decide)]; exact rr.2.2.1
      · exact rBy_eq rr.2.2.2.1 (by rw [gAo 24 (by decide) (by decide)]) (by rw [gAo 25 (by decide) (by decide)])
      · rw [g30]; unfold vp_updL; exact if_pos rfl
    have hRO : RO σ2 (od ++ [P]) := by
      have hle : (od ++ [P]).length = od.length + 1 := by rw [List.length_append]; rfl
      refine ⟨by rw [hle]; exact g48, by omega, fun j d hj => ?_⟩
      by_cases c : j < od.length
      · rw [List.getElem?_append_left c] at hj
        rw [g49, upd_ne (by omega), e3.2.2.1 49 (by decide) (by decide) (by decide) (by decide) (by decide) (by decide)]
        exact ho.2.2 j d hj
      · have hjl : j = od.length := by
          have := (List.getElem?_eq_some_iff.mp hj).1
          omega
        rw [hjl, List.getElem?_append_right (Nat.le_refl _), Nat.sub_self] at hj
        rw [hjl, g49, upd_eq, Option.some.inj hj]
    obtain ⟨σ', i1, i2, i3, i4⟩ := ih (i + 1) f σ2 gs (setR (entL g.1 xs) P (gvR g.2)) (od ++ [P]) (RG_K hw hk) hd2 (by omega) (by omega) hRL (by rw [setR_len]; omega) hRO (by rw [List.length_append]; have : [P].length = 1 := rfl; omega)
    refine ⟨σ', ?_, ?_, ?_, frK_trans hk i4⟩
    · unfold f_M_tellNames_2
      rw [Mg31 hm, bs, hw.1, if_neg (nI_ge (by omega) (by omega)), Mr33 hm, bs, Mr35 hm, bs, Ma35 hm (by omega), bs, a2, e_o hm, bs, pk_mul, nI_add, e1, xb_mk, Mr23 hm, bs, Ms23 hm hP2, bs, Mr30 hm, bs, Mr37 hm, bs, Ma37 hm (by omega), bs, show gB (sA σ1 23 (upd (gA σ1 23) P (nI 3))) 37 i = g.2 from s37, Ms30 hm hP2, bs, Mr49 hm, bs, Mg48 hm, bs, gI_sB, gI_sA, s48, Ms49 hm (by omega), bs, Mg48 hm, bs, gI_sA, gI_sB, gI_sA, s48, nI_add, Mp48 hm, bs, nI_add]
      rw [show mh m h (sI (sA (sB (sA σ1 23 (upd (gA σ1 23) P (nI 3))) 30 (vp_updL (gB (sA σ1 23 (upd (gA σ1 23) P (nI 3))) 30) P g.2)) 49 (upd (gA (sB (sA σ1 23 (upd (gA σ1 23) P (nI 3))) 30 (vp_updL (gB (sA σ1 23 (upd (gA σ1 23) P (nI 3))) 30) P g.2)) 49) od.length (nI P))) 48 (nI (od.length + 1))) = mh m h σ2 by rw [hσ2]; rfl]
      exact i1
    · unfold tlG
      rw [← hP]; exact i2
    · unfold tlG
      rw [← hP]; exact i3
theorem q_tellNames {σ : px_S} {gs : List (List Nat × Int64)} {ws : List (List Nat)} (hm : m ≤ h.length) (hF : 4096 < F) (hg : RG σ gs) (hw : RW σ ws) (h20 : gI σ 20 = nI 0) (h48 : gI σ 48 = nI 0) : ∃ σ', f_M_tellNames F m (mh m h σ) = some ((), mh m h σ') ∧ RL σ' (tlW ws (tlG gs ([], [])).1) ∧ RO σ' (tlG gs ([], [])).2 ∧ frK σ σ' := by
  have h16 := hg.2.1.1
  rw [List.length_map] at h16
  have h17 := hw.2.1
  have hlen : ∀ (l : List (List Nat × Int64)) (s : px_NL × List Nat), (tlG l s).1.length ≤ s.1.length + l.length := by
    intro l
    induction l with
    | nil => intro s; exact Nat.le_refl _
    | cons g l ih =>
      intro s
      unfold tlG
      have h1 := ih (setR (entL g.1 s.1) (plc g.1 (s.1.map Prod.fst)) (gvR g.2), s.2 ++ [plc g.1 (s.1.map Prod.fst)])
      have h2 : (setR (entL g.1 s.1) (plc g.1 (s.1.map Prod.fst)) (gvR g.2)).length ≤ s.1.length + 1 := by rw [setR_len]; exact entL_len
      rw [List.length_cons]
      exact Nat.le_trans h1 (by show (setR (entL g.1 s.1) (plc g.1 (s.1.map Prod.fst)) (gvR g.2)).length + l.length ≤ _; omega)
  obtain ⟨σ1, e1, e2, e3, e4⟩ := q_tG (F := F) hm hF gs 0 F σ gs [] [] hg (List.drop_zero) (by omega) (by omega) ⟨⟨h20, Nat.zero_le _, fun i w hw => by rw [List.map_nil, List.getElem?_nil] at hw; cases hw⟩, fun i x hx => by rw [List.getElem?_nil] at hx; cases hx⟩ (by rw [List.length_nil]; omega) ⟨h48, Nat.zero_le _, fun i x hx => by rw [List.getElem?_nil] at hx; cases hx⟩ (by rw [List.length_nil]; omega)
  have hl1 := hlen gs ([], [])
  have hl2 : (tlG gs ([], [])).1.length ≤ 16 := by
    have : (([], []) : px_NL × List Nat).1.length = 0 := rfl
    omega
  obtain ⟨σ2, f1, f2, f3, f4, f5⟩ := q_tW (F := F) hm hF ws 0 F σ1 ws (tlG gs ([], [])).1 (RW_K hw e4) (List.drop_zero) (by omega) (by omega) e2 (by omega)
  refine ⟨σ2, ?_, f2, ?_, frK_trans e4 f3⟩
  · unfold f_M_tellNames
    rw [e1]
    unfold f_M_tellNames_79
    exact f1
  · refine ⟨?_, e3.2.1, fun i d hd => ?_⟩
    · rw [f4]; exact e3.1
    · rw [f5]; exact e3.2.2 i d hd
end MTN
