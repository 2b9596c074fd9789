/-! come of the reference -/
/-- the sections dropped -/
def RDr (σ : px_S) (dr : Nat → Bool) : Prop := ∀ i, i < 1536 → gA σ 65 i = bI (dr i)
def wNo (dr : Nat → Bool) (t : Nat) (b : Nat → Nat) (k : Nat) : Nat := if 0 < yW b k ∧ yW b k < 24 ∧ dr (24 * t + yW b k) = true then 0 else yW b k
def sOf (dr : Nat → Bool) (t : Nat) (b : Nat → Nat) (k : Nat) : Nat := if wNo dr t b k = 0 then 0 else if wNo dr t b k = 65522 then 2 else if yB b k = 1 then 3 else 1
/-- object t taken stands at o -/
def RTa (σ : px_S) (t o : Nat) : Prop := t < 64 ∧ ∃ q, q < 64 ∧ gA σ 17 t = nI q ∧ gA σ 9 q = nI o
def okL (xs : px_NL) : Prop := ∀ (i : Nat) (x : List Nat × px_NR), xs[i]? = some x → okR x.2
theorem okL_ent {xs : px_NL} {w : List Nat} (h : okL xs) : okL (entL w xs) := by
  unfold entL
  split
  · exact h
  · intro i x hx
    by_cases c : i < xs.length
    · rw [List.getElem?_append_left c] at hx
      exact h i x hx
    · rw [List.getElem?_append_right (by omega)] at hx
      have hi : i - xs.length = 0 := by
        have := (List.getElem?_eq_some_iff.mp hx).1
        have h1 : [(w, nr0)].length = 1 := rfl
        omega
      rw [hi] at hx
      rw [← Option.some.inj hx]
      exact (show okR nr0 from ⟨by decide, by decide, by decide⟩)
theorem okL_set {xs : px_NL} {i : Nat} {x : List Nat × px_NR} (h : okL xs) (hx : okR x.2) : okL (xs.set i x) := by
  intro j y hy
  by_cases c : i = j
  · have hj : i < xs.length := by
      have := (List.getElem?_eq_some_iff.mp hy).1
      rw [List.length_set] at this
      omega
    rw [← c, List.getElem?_set_self hj] at hy
    rw [← Option.some.inj hy]; exact hx
  · rw [List.getElem?_set_ne c] at hy
    exact h j y hy
theorem okR_cm {s t k z v : Nat} {r : px_NR} (h : okR r) (hs : s ≤ 4) (hz : s = 2 → z < 2 ^ 31) (hv : s = 2 → v < 2 ^ 31) : okR (cmS s t k z v r) := by
  unfold cmS
  split
  · unfold dfR okR
    refine ⟨hs, ?_, ?_⟩
    · show (if s = 2 then z else 0) < _
      split
      · rename_i e; exact hz e
      · decide
    · show (if s = 2 then v else 0) < _
      split
      · rename_i e; exact hv e
      · decide
  · split
    · rename_i e
      unfold cmR okR
      refine ⟨h.1, ?_, ?_⟩
      · show (if z ≤ r.2.2.2.2.2.1 then r.2.2.2.2.2.1 else z) < _
        split
        · exact h.2.1
        · exact hz e.1
      · show (if v ≤ r.2.2.2.2.2.2 then r.2.2.2.2.2.2 else v) < _
        split
        · exact h.2.2
        · exact hv e.1
    · exact h
theorem yW_2 {B : Nat → Int32} {o n k : Nat} : yW (cb B o n) k < 65536 := by
  have := le_lt (cb_lt B o n) (yP (cb B o n) k + 6) 2
  exact this
section MCN
variable {F m o n k t : Nat} {h : px_H} {σ : px_S} {dr : Nat → Bool}
theorem q_object (hm : m ≤ h.length) (ht : RTa σ t o) : f_M_object F m (nI t) (mh m h σ) = some (nI o, mh m h σ) := by
  obtain ⟨h1, q, h2, h3, h4⟩ := ht
  unfold f_M_object
  rw [Mr9 hm, bs, Mr17 hm, bs, Ma17 hm h1, bs, h3, Ma9 hm h2, bs, h4]
theorem q_whereNow (hm : m ≤ h.length) (hF : 24 < F) (hB : ∀ k, isB (gA σ 6 k)) (hw : w2 (cb (gA σ 6) o n) n) (hn : o + n ≤ 65536) (hk : k < oM (cb (gA σ 6) o n)) (ht : RTa σ t o) (hd : RDr σ dr) : f_M_whereNow F m (nI t) (nI k) (mh m h σ) = some (nI (wNo dr t (cb (gA σ 6) o n) k), mh m h σ) := by
  have ho := w1_rk hw.1 hn
  have hs := hw.1.2.1.1
  have hy := w2_y hw hk
  have h64 := ht.1
  have hW := yW_2 (B := gA σ 6) (o := o) (n := n) (k := k)
  unfold f_M_whereNow f_M_whereNow_39 f_M_whereNow_40 wNo
  rw [e_o hm, bs, q_object hm ht, xb_mk, e_o hm, bs, q_where (Mmb hm hB) hF ho hs hy, xb_mk]
  generalize yW (cb (gA σ 6) o n) k = W at *
  by_cases c1 : W = 0
  · rw [if_pos (show nI W ≤ 0 from nI_le (b := 0) (by omega) (by omega)), if_neg (by omega)]
  · rw [if_neg (show ¬ nI W ≤ 0 from nI_nle (by omega) (by omega))]
    by_cases c2 : W < 24
    · rw [if_neg (nI_ge c2 (by omega)), Mr65 hm, bs, pk_mul, nI_add, Ma65 hm (by omega), bs, hd _ (by omega)]
      cases e : dr (24 * t + W) with
      | true => rw [if_neg (show ¬ bI true = 0 by decide), if_pos ⟨by omega, c2, rfl⟩]
      | false => rw [if_pos (show bI false = 0 from rfl), if_neg (fun q => nomatch q.2.2)]
    · rw [if_pos (nI_le (by omega) (by omega)), if_neg (by omega)]
theorem q_strengthOf (hm : m ≤ h.length) (hF : 24 < F) (hB : ∀ k, isB (gA σ 6 k)) (hw : w2 (cb (gA σ 6) o n) n) (hn : o + n ≤ 65536) (hk : k < oM (cb (gA σ 6) o n)) (ht : RTa σ t o) (hd : RDr σ dr) (hb2 : yB (cb (gA σ 6) o n) k ≤ 2) : f_M_strengthOf F m (nI t) (nI k) (mh m h σ) = some (nI (sOf dr t (cb (gA σ 6) o n) k), mh m h σ) := by
  have ho := w1_rk hw.1 hn
  have hs := hw.1.2.1.1
  have hy := w2_y hw hk
  have hW := yW_2 (B := gA σ 6) (o := o) (n := n) (k := k)
  have hwn : wNo dr t (cb (gA σ 6) o n) k < 65536 := by
    unfold wNo
    split
    · decide
    · exact hW
  unfold f_M_strengthOf f_M_strengthOf_48 sOf
  have hwN := q_whereNow (F := F) hm hF hB hw hn hk ht hd
  have hob := q_object (F := F) hm ht
  rw [e_o hm, bs, hwN, xb_mk, e_o hm, bs, show (65522 : Int32) = nI 65522 from rfl]
  have hbn := q_bind (F := F) (h := mh m h σ) (m := m) (k := k) (Mmb hm hB) hF ho hs hy
  generalize wNo dr t (cb (gA σ 6) o n) k = W at *
  generalize yB (cb (gA σ 6) o n) k = b at *
  by_cases c1 : W = 0
  · rw [if_pos (by rw [c1]; rfl), if_pos c1]
  · rw [if_neg (show ¬ nI W = 0 from fun q => c1 ((nI_eq (b := 0) (by omega) (by decide)).mp q)), if_neg c1, hwN, xb_mk]
    by_cases c2 : W = 65522
    · rw [if_pos (by rw [c2]), if_pos c2]
    · rw [if_neg (fun q => c2 ((nI_eq (by omega) (by decide)).mp q)), if_neg c2, e_o hm, bs, hob, xb_mk, e_o hm, bs, hbn, xb_mk]
      by_cases c3 : b = 1
      · rw [if_pos (by rw [c3]), if_pos c3]
      · rw [if_neg (fun q => c3 ((nI_eq (by omega) (by decide)).mp q)), if_neg c3]
/-- the names, and the order of definitions, when symbol k of object t comes; false: a double -/
def comS (dr : Nat → Bool) (t : Nat) (b : Nat → Nat) (k : Nat) (st : px_NL × List Nat) : Bool × px_NL × List Nat :=
  if sOf dr t b k = 0 then (true, setR (entL (yT b k) st.1) (plc (yT b k) (st.1.map Prod.fst)) (fun r => (r.1, (r.2.1 || decide (yB b k = 1)), r.2.2)), st.2)
  else if sOf dr t b k = 3 ∧ ((entL (yT b k) st.1).getD (plc (yT b k) (st.1.map Prod.fst)) ([], nr0)).2.1 = 3 then (false, entL (yT b k) st.1, st.2)
  else (true, setR (entL (yT b k) st.1) (plc (yT b k) (st.1.map Prod.fst)) (cmS (sOf dr t b k) t k (yZ b k) (yV b k)), if ((entL (yT b k) st.1).getD (plc (yT b k) (st.1.map Prod.fst)) ([], nr0)).2.1 = 0 then st.2 ++ [plc (yT b k) (st.1.map Prod.fst)] else st.2)
theorem sOf_4 {b : Nat → Nat} : sOf dr t b k ≤ 4 := by
  unfold sOf
  repeat (first | split | omega)
theorem sOf_2 {b : Nat → Nat} (h : sOf dr t b k = 2) : yW b k = 65522 := by
  unfold sOf at h
  by_cases c1 : wNo dr t b k = 0
  · rw [if_pos c1] at h; cases h
  · rw [if_neg c1] at h
    by_cases c2 : wNo dr t b k = 65522
    · unfold wNo at c2
      by_cases c3 : 0 < yW b k ∧ yW b k < 24 ∧ dr (24 * t + yW b k) = true
      · rw [if_pos c3] at c2; cases c2
      · rw [if_neg c3] at c2; exact c2
    · rw [if_neg c2] at h
      by_cases c3 : yB b k = 1
      · rw [if_pos c3] at h; cases h
      · rw [if_neg c3] at h; cases h
theorem yOK_n {b : Nat → Nat} (h : yOK b k = true) (hb : yB b k ≠ 0) : yB b k ≤ 2 ∧ yG b k = true ∧ (yW b k = 65522 → yV b k ≤ 4096 ∧ yZ b k ≤ 16384) := by
  have h1 := of_decide_eq_true h
  refine ⟨h1.1, (h1.2.2.2 hb).2.1, fun e => ?_⟩
  have h2 := (h1.2.2.2 hb).2.2 e
  exact ⟨(of_decide_eq_true h2.1).2.1, h2.2⟩
theorem RTa_M {σ' : px_S} (h : RTa σ t o) (f : frM σ σ') : RTa σ' t o := by
  obtain ⟨h1, q, h2, h3, h4⟩ := h
  refine ⟨h1, q, h2, ?_, ?_⟩
  · rw [f.2.2.1 17 (by decide) (by decide) (by decide)]; exact h3
  · rw [f.2.2.1 9 (by decide) (by decide) (by decide)]; exact h4
theorem RDr_M {σ' : px_S} (h : RDr σ dr) (f : frM σ σ') : RDr σ' dr := by
  intro i hi
  rw [f.2.2.1 65 (by decide) (by decide) (by decide)]
  exact h i hi
theorem q_come {xs : px_NL} {od : List Nat} (hm : m ≤ h.length) (hF : 4096 < F) (hB : ∀ k, isB (gA σ 6 k)) (hw : w2 (cb (gA σ 6) o n) n) (hn : o + n ≤ 65536) (hk : k < oM (cb (gA σ 6) o n)) (hok : yOK (cb (gA σ 6) o n) k = true) (hb : yB (cb (gA σ 6) o n) k ≠ 0) (ht : RTa σ t o) (hd : RDr σ dr) (hr : RL σ xs) (hxo : okL xs) (hl : xs.length < 4096) (ho : RO σ od) (hol : od.length < 4096) : ∃ σ', f_M_come F m (nI t) (nI o) (nI k) (mh m h σ) = some (bI (comS dr t (cb (gA σ 6) o n) k (xs, od)).1, mh m h σ') ∧ RL σ' (comS dr t (cb (gA σ 6) o n) k (xs, od)).2.1 ∧ okL (comS dr t (cb (gA σ 6) o n) k (xs, od)).2.1 ∧ RO σ' (comS dr t (cb (gA σ 6) o n) k (xs, od)).2.2 ∧ frM σ σ' := by
  obtain ⟨y1, y2, y3⟩ := yOK_n hok hb
  obtain ⟨σ1, e1, e2, e3⟩ := q_enter (F := F) hm hF hB hw hn hk y2 hr hl
  have f1 := frM_J e3
  have b6 : gA σ1 6 = gA σ 6 := f1.2.2.1 6 (by decide) (by decide) (by decide)
  have hB1 : ∀ k, isB (gA σ1 6 k) := by rw [b6]; exact hB
  have hst := q_strengthOf (F := F) (h := h) (σ := σ1) (o := o) (n := n) (k := k) (t := t) (dr := dr) hm (by omega) hB1 (by rw [b6]; exact hw) hn (by rw [b6]; exact hk) (RTa_M ht f1) (RDr_M hd f1) (by rw [b6]; exact y1)
  rw [b6] at hst
  have hok1 := okL_ent (w := yT (cb (gA σ 6) o n) k) hxo
  obtain ⟨r, hr1, hr2⟩ := plc_at (w := yT (cb (gA σ 6) o n) k) (xs := xs)
  have hel := entL_len (w := yT (cb (gA σ 6) o n) k) (xs := xs)
  have hs4 := sOf_4 (dr := dr) (t := t) (k := k) (b := cb (gA σ 6) o n)
  have hs2 := fun q => y3 (sOf_2 (dr := dr) (t := t) (k := k) (b := cb (gA σ 6) o n) q)
  have hrk := w1_rk hw.1 hn
  have hsS := hw.1.2.1.1
  have hyP := w2_y hw hk
  have hZ : ∀ σ', gA σ' 6 = gA σ 6 → f_M_symbolSize F m (nI o) (nI k) (mh m h σ') = some (lN (yZ (cb (gA σ 6) o n) k), mh m h σ') := by
    intro σ' q
    exact q_symbolSize (q ▸ Mmb hm (by rw [q]; exact hB)) (by omega) hrk hsS hyP
  have hV : ∀ σ', gA σ' 6 = gA σ 6 → f_M_value F m (nI o) (nI k) (mh m h σ') = some (lN (yV (cb (gA σ 6) o n) k), mh m h σ') := by
    intro σ' q
    exact q_value (q ▸ Mmb hm (by rw [q]; exact hB)) (by omega) hrk hsS hyP
  have hbn : f_M_bind F m (nI o) (nI k) (mh m h σ1) = some (nI (yB (cb (gA σ 6) o n) k), mh m h σ1) := q_bind (b6 ▸ Mmb hm hB1) (by omega) hrk hsS hyP
  unfold comS
  show ∃ σ', f_M_come F m (nI t) (nI o) (nI k) (mh m h σ) = _ ∧ _
  have hgd : ((entL (yT (cb (gA σ 6) o n) k) xs).getD (plc (yT (cb (gA σ 6) o n) k) (xs.map Prod.fst)) ([], nr0)) = (yT (cb (gA σ 6) o n) k, r) := by
    rw [List.getD_eq_getElem?_getD, hr1]; rfl
  unfold f_M_come
  rw [e_o hm, bs, e1, xb_mk, e_o hm, bs, hst, xb_mk]
  dsimp only
  rw [hgd]
  generalize sOf dr t (cb (gA σ 6) o n) k = s at *
  generalize yT (cb (gA σ 6) o n) k = w at *
  generalize yZ (cb (gA σ 6) o n) k = z at *
  generalize yV (cb (gA σ 6) o n) k = v at *
  generalize yB (cb (gA σ 6) o n) k = B at *
  generalize entL w xs = ys at *
  generalize plc w (xs.map Prod.fst) = P at *
  have hP : P < 4096 := by omega
  have rr : rrec σ1 P r := e2.2 P _ hr1
  have hrok : okR r := hok1 P _ hr1
  by_cases c1 : s = 0
  · rw [if_pos (show nI s = 0 by rw [c1]; rfl), if_pos c1]
    rw [Mr28 hm, bs, bs, Ma28 hm hP, bs, rr.2.1]
    obtain ⟨σ2, hσ2⟩ : ∃ x, x = sA σ1 28 (upd (gA σ1 28) P (bI (r.2.1 || decide (B = 1)))) := ⟨_, rfl⟩
    have g28 : gA σ2 28 = upd (gA σ1 28) P (bI (r.2.1 || decide (B = 1))) := by rw [hσ2, gA_sA, if_pos rfl]
    have gAo : ∀ q, q ≠ 28 → gA σ2 q = gA σ1 q := fun q hq => by rw [hσ2, gA_sA, if_neg hq]
    have gBo : ∀ q, gB σ2 q = gB σ1 q := fun q => by rw [hσ2]; rfl
    have gIo : ∀ q, gI σ2 q = gI σ1 q := fun q => by rw [hσ2]; rfl
    have hst2 : ∀ c : Bool, (c = (r.2.1 || decide (B = 1))) → f_M_come_52 F (m + 20) (nI P) (bI c) (mh m h σ1) = some (bI true, mh m h σ2) := by
      intro c hc
      unfold f_M_come_52
      rw [show bI c &&& 1 = bI c by cases c <;> rfl, Ms28 hm hP, bs, hc, ← hσ2]
      rfl
    refine ⟨σ2, ?_, ?_, ?_, ?_, ?_⟩
    · unfold f_M_come_47
      cases e : r.2.1 with
      | true =>
        rw [if_neg (show ¬ bI true = 0 by decide)]
        exact hst2 true (by rw [e]; rfl)
      | false =>
        rw [if_pos (show bI false = 0 from rfl), e_o hm, bs, hbn, xb_mk]
        by_cases c2 : B = 1
        · rw [if_pos (by rw [c2])]
          exact hst2 true (by rw [e, decide_eq_true c2]; rfl)
        · rw [if_neg (fun q => c2 ((nI_eq (by omega) (by decide)).mp q))]
          exact hst2 false (by rw [e, decide_eq_false c2]; rfl)
    · show RL σ2 (setR ys P (fun r => (r.1, (r.2.1 || decide (B = 1)), r.2.2)))
      rw [setR_at hr1]
      refine RL_set e2 hr1 (gIo 20) (gAo 21 (by decide)) (gAo 22 (by decide)) (fun q j hq hj => ?_) (fun j _ => by rw [gBo]) ⟨?_, ?_, ?_, ?_, ?_, ?_⟩
      · by_cases c : q = 28
        · rw [c, g28, upd_ne hj]
        · rw [gAo q c]
      · rw [gAo 23 (by decide)]; exact rr.1
      · rw [g28, upd_eq]
      · rw [gAo 73 (by decide)]; exact rr.2.2.1
      · exact rBy_eq rr.2.2.2.1 (by rw [gAo 24 (by decide)]) (by rw [gAo 25 (by decide)])
      · rw [gBo]; exact rr.2.2.2.2.1
      · rw [gAo 26 (by decide), gAo 27 (by decide)]; exact rr.2.2.2.2.2
    · show okL (setR ys P (fun r => (r.1, (r.2.1 || decide (B = 1)), r.2.2)))
      rw [setR_at hr1]
      exact okL_set hok1 hrok
    · refine ⟨(gIo 48).trans ((e3.1 48 (by decide)).trans ho.1), ho.2.1, fun i d hd => ?_⟩
      rw [gAo 49 (by decide), e3.2.2.1 49 (by decide) (by decide) (by decide) (by decide) (by decide) (by decide)]
      exact ho.2.2 i d hd
    · exact frM_trans f1 ⟨fun q _ _ => gIo q, fun q => by rw [hσ2]; rfl, fun q a _ _ => gAo q (by omega), fun q _ => gBo q⟩
  · rw [if_neg (show ¬ nI s = 0 from fun q => c1 ((nI_eq (b := 0) (by omega) (by decide)).mp q)), if_neg c1]
    have ho1 : RO σ1 od := ⟨(e3.1 48 (by decide)).trans ho.1, ho.2.1, fun i d hd => by
      rw [e3.2.2.1 49 (by decide) (by decide) (by decide) (by decide) (by decide) (by decide)]
      exact ho.2.2 i d hd⟩
    have hr4 := hrok.1
    have key : ∃ σ', f_M_come_74 F m (nI t) (nI o) (nI k) (nI P) (nI s) (mh m h σ1) = some (bI true, mh m h σ') ∧ RL σ' (setR ys P (cmS s t k z v)) ∧ okL (setR ys P (cmS s t k z v)) ∧ RO σ' (if r.1 = 0 then od ++ [P] else od) ∧ frM σ σ' := by
      rw [setR_at hr1]
      unfold f_M_come_74
      rw [Mr23 hm, bs, Ma23 hm hP, bs, rr.1]
      by_cases c2 : r.1 = 0
      · rw [if_pos (show nI r.1 = 0 by rw [c2]; rfl), if_pos c2, Mr49 hm, bs, Mg48 hm, bs, ho1.1, Ms49 hm hol, bs, Mg48 hm, bs, gI_sA, ho1.1, nI_add, Mp48 hm, bs]
        obtain ⟨σ2, hσ2⟩ : ∃ x, x = sI (sA σ1 49 (upd (gA σ1 49) od.length (nI P))) 48 (nI (od.length + 1)) := ⟨_, rfl⟩
        rw [← hσ2]
        have gAo : ∀ q, q ≠ 49 → gA σ2 q = gA σ1 q := fun q hq => by rw [hσ2, gA_sI, gA_sA, if_neg hq]
        have g49 : gA σ2 49 = upd (gA σ1 49) od.length (nI P) := by rw [hσ2, gA_sI, gA_sA, if_pos rfl]
        have gBo : ∀ q, gB σ2 q = gB σ1 q := fun q => by rw [hσ2]; rfl
        have gIo : ∀ q, q ≠ 48 → gI σ2 q = gI σ1 q := fun q hq => by rw [hσ2, gI_sI, if_neg hq, gI_sA]
        have g48 : gI σ2 48 = nI (od.length + 1) := by rw [hσ2, gI_sI, if_pos rfl]
        have f2 : frM σ1 σ2 := ⟨fun q _ a => gIo q a, fun q => by rw [hσ2]; rfl, fun q _ _ a => gAo q a, fun q _ => gBo q⟩
        have hRL2 : RL σ2 ys := ⟨RNm_eq e2.1 (gIo 20 (by decide)) (gAo 21 (by decide)) (gAo 22 (by decide)), fun i x hx => rrec_eq (e2.2 i x hx) (fun q hq => by rw [gAo q (by omega)]) (by rw [gBo])⟩
        have h6 : gA σ2 6 = gA σ 6 := (gAo 6 (by decide)).trans b6
        obtain ⟨σ', k1, k2, k3, k4, k5, k6⟩ := q_come_105 (F := F) (t := t) hm hRL2 hr1 hP hs4 hrok (fun q => by have := (hs2 q).2; omega) (fun q => by have := (hs2 q).1; omega) (fun σ' q => hZ σ' (q.trans h6)) (fun σ' q => hV σ' (q.trans h6))
        refine ⟨σ', k1, k2, okL_set hok1 (okR_cm hrok hs4 (fun q => by have := (hs2 q).2; omega) (fun q => by have := (hs2 q).1; omega)), ⟨?_, ?_, ?_⟩, frM_trans f1 (frM_trans f2 k3)⟩
        · rw [k4, g48, List.length_append]; rfl
        · rw [List.length_append]; exact hol
        · intro i d hd
          rw [k5, g49]
          by_cases ci : i < od.length
          · rw [List.getElem?_append_left ci] at hd
            rw [upd_ne (by omega)]
            exact ho1.2.2 i d hd
          · have hi : i = od.length := by
              have := (List.getElem?_eq_some_iff.mp hd).1
              rw [List.length_append] at this
              have h1 : [P].length = 1 := rfl
              omega
            rw [hi, List.getElem?_append_right (Nat.le_refl _), Nat.sub_self] at hd
            rw [hi, upd_eq, Option.some.inj hd]
      · rw [if_neg (show ¬ nI r.1 = 0 from fun q => c2 ((nI_eq (b := 0) (by omega) (by decide)).mp q)), if_neg c2]
        obtain ⟨σ', k1, k2, k3, k4, k5, k6⟩ := q_come_105 (F := F) (t := t) hm e2 hr1 hP hs4 hrok (fun q => by have := (hs2 q).2; omega) (fun q => by have := (hs2 q).1; omega) (fun σ' q => hZ σ' (q.trans b6)) (fun σ' q => hV σ' (q.trans b6))
        refine ⟨σ', k1, k2, okL_set hok1 (okR_cm hrok hs4 (fun q => by have := (hs2 q).2; omega) (fun q => by have := (hs2 q).1; omega)), ⟨k4.trans ho1.1, ho1.2.1, fun i d hd => by rw [k5]; exact ho1.2.2 i d hd⟩, frM_trans f1 k3⟩
    by_cases c3 : s = 3
    · rw [if_pos (show nI s = nI 3 by rw [c3]), Mr23 hm, bs, Ma23 hm hP, bs, rr.1]
      by_cases c4 : r.1 = 3
      · rw [if_pos (show nI r.1 = nI 3 by rw [c4]), if_pos ⟨c3, c4⟩]
        exact ⟨σ1, rfl, e2, hok1, ho1, f1⟩
      · rw [if_neg (fun q => c4 ((nI_eq (by omega) (by decide)).mp q)), if_neg (fun q => c4 q.2)]
        exact key
    · rw [if_neg (fun q => c3 ((nI_eq (by omega) (by decide)).mp q)), if_neg (fun q => c3 q.1)]
      exact key
end MCN
