/-! a symbol comes to its name, in the reference -/
/-- a record within its bounds -/
def okR (r : px_NR) : Prop := r.1 ≤ 4 ∧ r.2.2.2.2.2.1 < 2 ^ 31 ∧ r.2.2.2.2.2.2 < 2 ^ 31
/-- only what a coming name changes has changed -/
def frM (σ σ' : px_S) : Prop := (∀ k, k ≠ 20 → k ≠ 48 → gI σ' k = gI σ k) ∧ (∀ k, gJ σ' k = gJ σ k) ∧ (∀ k, (k < 21 ∨ 28 < k) → k ≠ 73 → k ≠ 49 → gA σ' k = gA σ k) ∧ (∀ k, k ≠ 30 → gB σ' k = gB σ k)
theorem frM_refl (σ : px_S) : frM σ σ := ⟨fun _ _ _ => rfl, fun _ => rfl, fun _ _ _ _ => rfl, fun _ _ => rfl⟩
theorem frM_trans {σ σ1 σ2 : px_S} (h : frM σ σ1) (g : frM σ1 σ2) : frM σ σ2 := ⟨fun k a b => (g.1 k a b).trans (h.1 k a b), fun k => (g.2.1 k).trans (h.2.1 k), fun k a1 a2 a3 => (g.2.2.1 k a1 a2 a3).trans (h.2.2.1 k a1 a2 a3), fun k a => (g.2.2.2 k a).trans (h.2.2.2 k a)⟩
theorem frM_J {σ σ' : px_S} (h : frJ σ σ') : frM σ σ' := ⟨fun k a _ => h.1 k a, h.2.1, fun k a1 a2 a3 => h.2.2.1 k (by omega) (by omega) (by omega) (by omega) (by omega) a2, h.2.2.2⟩
/-- defined by symbol k of object t with strength s -/
def dfR (s t k z v : Nat) (r : px_NR) : px_NR := (s, r.2.1, r.2.2.1, some (t, k), r.2.2.2.2.1, if s = 2 then z else 0, if s = 2 then v else 0)
/-- two commons -/
def cmR (z v : Nat) (r : px_NR) : px_NR := (r.1, r.2.1, r.2.2.1, r.2.2.2.1, r.2.2.2.2.1, if z ≤ r.2.2.2.2.2.1 then r.2.2.2.2.2.1 else z, if v ≤ r.2.2.2.2.2.2 then r.2.2.2.2.2.2 else v)
section MCM
variable {F m o n k t P s z v : Nat} {h : px_H} {σ : px_S} {xs : px_NL} {w : List Nat} {r : px_NR} {od : List Nat}
theorem q_come_204 (hm : m ≤ h.length) (hr : RL σ xs) (hx : xs[P]? = some (w, r)) (hP : P < 4096) (hs : s ≤ 4) (hr4 : r.1 ≤ 4) (hZ : ∀ σ', gA σ' 6 = gA σ 6 → f_M_symbolSize F m (nI o) (nI k) (mh m h σ') = some (lN z, mh m h σ')) (hV : ∀ σ', gA σ' 6 = gA σ 6 → f_M_value F m (nI o) (nI k) (mh m h σ') = some (lN v, mh m h σ')) : ∃ σ', f_M_come_204 F m (nI t) (nI o) (nI k) (nI P) (nI s) (mh m h σ) = some (nI 1, mh m h σ') ∧ RL σ' (if r.1 < s then xs.set P (w, dfR s t k z v r) else xs) ∧ frM σ σ' ∧ gI σ' 48 = gI σ 48 ∧ gA σ' 49 = gA σ 49 ∧ gI σ' 20 = gI σ 20 := by
  have rr : rrec σ P r := hr.2 P _ hx
  unfold f_M_come_204
  rw [Mr23 hm, bs, Ma23 hm hP, bs, rr.1]
  by_cases c : r.1 < s
  · rw [if_pos (nI_lt c (by omega)), if_pos c, bs, Ms23 hm hP, bs, Mr24 hm, bs, Ms24 hm hP, bs, Mr25 hm, bs, Ms25 hm hP, bs, Mr26 hm, bs]
    obtain ⟨σ1, hσ1⟩ : ∃ x, x = sA (sA (sA σ 23 (upd (gA σ 23) P (nI s))) 24 (upd (gA σ 24) P (nI t))) 25 (upd (gA σ 25) P (nI k)) := ⟨_, rfl⟩
    have e1 : sA (sA (sA σ 23 (upd (gA σ 23) P (nI s))) 24 (upd (gA (sA σ 23 (upd (gA σ 23) P (nI s))) 24) P (nI t))) 25 (upd (gA (sA (sA σ 23 (upd (gA σ 23) P (nI s))) 24 (upd (gA (sA σ 23 (upd (gA σ 23) P (nI s))) 24) P (nI t))) 25) P (nI k)) = σ1 := by rw [hσ1]; rfl
    rw [e1]
    have a6 : gA σ1 6 = gA σ 6 := by rw [hσ1]; rfl
    have key : ∃ σ', f_M_come_266 F m (nI o) (nI k) (nI P) (nI s) (m + 18) (nI P) (nI (if s = 2 then z else 0)) (mh m h σ1) = some (nI 1, mh m h σ') ∧ σ' = sA (sA σ1 26 (upd (gA σ 26) P (nI (if s = 2 then z else 0)))) 27 (upd (gA σ 27) P (nI (if s = 2 then v else 0))) := by
      unfold f_M_come_266 f_M_come_290
      rw [Ms26 hm hP, bs, Mr27 hm, bs]
      by_cases c2 : s = 2
      · rw [if_pos (show nI s = nI 2 by rw [c2]), e_o hm, bs, hV _ (by show gA σ1 6 = _; exact a6), xb_mk, Ms27 hm hP, bs, lN_i, if_pos c2, if_pos c2]
        refine ⟨_, rfl, ?_⟩
        rw [hσ1]; rfl
      · rw [if_neg (fun q => c2 ((nI_eq (by omega) (by decide)).mp q)), Ms27 hm hP, bs, if_neg c2, if_neg c2]
        refine ⟨_, rfl, ?_⟩
        rw [hσ1]; rfl
    obtain ⟨σ', k1, k2⟩ := key
    refine ⟨σ', ?_, ?_, ?_, by rw [k2, hσ1]; rfl, by rw [k2, hσ1]; rfl, by rw [k2, hσ1]; rfl⟩
    · by_cases c2 : s = 2
      · rw [if_pos c2] at k1
        rw [if_pos (show nI s = nI 2 by rw [c2]), e_o hm, bs, hZ _ a6, xb_mk, lN_i]
        exact k1
      · rw [if_neg c2] at k1
        rw [if_neg (fun q => c2 ((nI_eq (by omega) (by decide)).mp q))]
        exact k1
    · have g23 : gA σ' 23 = upd (gA σ 23) P (nI s) := by rw [k2, hσ1]; rfl
      have g24 : gA σ' 24 = upd (gA σ 24) P (nI t) := by rw [k2, hσ1]; rfl
      have g25 : gA σ' 25 = upd (gA σ 25) P (nI k) := by rw [k2, hσ1]; rfl
      have g26 : gA σ' 26 = upd (gA σ 26) P (nI (if s = 2 then z else 0)) := by rw [k2, hσ1]; rfl
      have g27 : gA σ' 27 = upd (gA σ 27) P (nI (if s = 2 then v else 0)) := by rw [k2, hσ1]; rfl
      have g28 : gA σ' 28 = gA σ 28 := by rw [k2, hσ1]; rfl
      have g73 : gA σ' 73 = gA σ 73 := by rw [k2, hσ1]; rfl
      have b30 : gB σ' 30 = gB σ 30 := by rw [k2, hσ1]; rfl
      refine RL_set hr hx (by rw [k2, hσ1]; rfl) (by rw [k2, hσ1]; rfl) (by rw [k2, hσ1]; rfl) (fun q j hq hj => ?_) (fun j _ => by rw [b30]) ⟨?_, ?_, ?_, ⟨?_, ?_⟩, ?_, fun _ => ⟨?_, ?_⟩⟩
      · rcases hq with e | e | e | e | e | e | e
        · rw [e, g23, upd_ne hj]
        · rw [e, g24, upd_ne hj]
        · rw [e, g25, upd_ne hj]
        · rw [e, g26, upd_ne hj]
        · rw [e, g27, upd_ne hj]
        · rw [e, g28]
        · rw [e, g73]
      · rw [g23, upd_eq]; rfl
      · rw [g28]; exact rr.2.1
      · rw [g73]; exact rr.2.2.1
      · rw [g24, upd_eq]
      · rw [g25, upd_eq]
      · rw [b30]; exact rr.2.2.2.2.1
      · rw [g26, upd_eq]; rfl
      · rw [g27, upd_eq]; rfl
    · rw [k2, hσ1]
      refine ⟨fun _ _ _ => rfl, fun _ => rfl, fun q h1 h2 h3 => ?_, fun _ _ => rfl⟩
      rw [gA_sA, if_neg (by omega), gA_sA, if_neg (by omega), gA_sA, if_neg (by omega), gA_sA, if_neg (by omega), gA_sA, if_neg (by omega)]
  · rw [if_neg (nI_nlt (by omega) (by omega)), if_neg c]
    exact ⟨σ, rfl, hr, frM_refl σ, rfl, rfl, rfl⟩
theorem ite_max {a b : Nat} : (if a ≤ b then b else a) = max a b := by
  by_cases c : a ≤ b
  · rw [if_pos c, Nat.max_eq_right c]
  · rw [if_neg c, Nat.max_eq_left (by omega)]
/-- what a symbol of strength s (not 0) makes of the record -/
def cmS (s t k z v : Nat) (r : px_NR) : px_NR := if r.1 < s then dfR s t k z v r else if s = 2 ∧ r.1 = 2 then cmR z v r else r
theorem q_come_105 (hm : m ≤ h.length) (hr : RL σ xs) (hx : xs[P]? = some (w, r)) (hP : P < 4096) (hs : s ≤ 4) (hok : okR r) (hz : s = 2 → z < 2 ^ 31) (hv : s = 2 → v < 2 ^ 31) (hZ : ∀ σ', gA σ' 6 = gA σ 6 → f_M_symbolSize F m (nI o) (nI k) (mh m h σ') = some (lN z, mh m h σ')) (hV : ∀ σ', gA σ' 6 = gA σ 6 → f_M_value F m (nI o) (nI k) (mh m h σ') = some (lN v, mh m h σ')) : ∃ σ', f_M_come_105 F m (nI t) (nI o) (nI k) (nI P) (nI s) (mh m h σ) = some (nI 1, mh m h σ') ∧ RL σ' (xs.set P (w, cmS s t k z v r)) ∧ frM σ σ' ∧ gI σ' 48 = gI σ 48 ∧ gA σ' 49 = gA σ 49 ∧ gI σ' 20 = gI σ 20 := by
  have rr : rrec σ P r := hr.2 P _ hx
  have hPl : P < xs.length := (List.getElem?_eq_some_iff.mp hx).1
  have hself : xs.set P (w, r) = xs := by
    apply List.ext_getElem?
    intro j
    by_cases e : P = j
    · rw [← e, List.getElem?_set_self hPl, hx]
    · rw [List.getElem?_set_ne e]
  have plain : ¬ (s = 2 ∧ r.1 = 2) → ∃ σ', f_M_come_204 F m (nI t) (nI o) (nI k) (nI P) (nI s) (mh m h σ) = some (nI 1, mh m h σ') ∧ RL σ' (xs.set P (w, cmS s t k z v r)) ∧ frM σ σ' ∧ gI σ' 48 = gI σ 48 ∧ gA σ' 49 = gA σ 49 ∧ gI σ' 20 = gI σ 20 := by
    intro hc
    obtain ⟨σ', e1, e2, e3⟩ := q_come_204 (t := t) (F := F) hm hr hx hP hs hok.1 hZ hV
    refine ⟨σ', e1, ?_, e3⟩
    unfold cmS
    by_cases c : r.1 < s
    · rw [if_pos c] at e2 ⊢; exact e2
    · rw [if_neg c] at e2
      rw [if_neg c, if_neg hc, hself]; exact e2
  unfold f_M_come_105
  by_cases c1 : s = 2
  · replace hz := hz c1
    replace hv := hv c1
    rw [if_pos (show nI s = nI 2 by rw [c1]), Mr23 hm, bs, Ma23 hm hP, bs, rr.1]
    by_cases c2 : r.1 = 2
    · rw [if_pos (show nI r.1 = nI 2 by rw [c2]), Mr26 hm, bs, e_o hm, bs, hZ σ rfl, xb_mk, Mr26 hm, bs, Ma26 hm hP, bs, (rr.2.2.2.2.2 c2).1, lN_i]
      obtain ⟨σ1, hσ1⟩ : ∃ x, x = sA σ 26 (upd (gA σ 26) P (nI (if z ≤ r.2.2.2.2.2.1 then r.2.2.2.2.2.1 else z))) := ⟨_, rfl⟩
      obtain ⟨σ2, hσ2⟩ : ∃ x, x = sA σ1 27 (upd (gA σ 27) P (nI (if v ≤ r.2.2.2.2.2.2 then r.2.2.2.2.2.2 else v))) := ⟨_, rfl⟩
      have k162 : f_M_come_162 F m (nI t) (nI o) (nI k) (nI P) (nI s) (m + 18) (nI P) (nI (if z ≤ r.2.2.2.2.2.1 then r.2.2.2.2.2.1 else z)) (mh m h σ) = f_M_come_204 F m (nI t) (nI o) (nI k) (nI P) (nI s) (mh m h σ2) := by
        unfold f_M_come_162 f_M_come_203
        rw [Ms26 hm hP, bs, ← hσ1, Mr27 hm, bs, e_o hm, bs, hV σ1 (by rw [hσ1]; rfl), xb_mk, Mr27 hm, bs, Ma27 hm hP, bs, lN_i, show gA σ1 27 P = nI r.2.2.2.2.2.2 by rw [hσ1]; exact (rr.2.2.2.2.2 c2).2]
        by_cases c3 : v ≤ r.2.2.2.2.2.2
        · rw [if_pos (nI_le c3 (by have := hok.2.2; omega)), bs, Ma27 hm hP, bs, show gA σ1 27 P = nI r.2.2.2.2.2.2 by rw [hσ1]; exact (rr.2.2.2.2.2 c2).2, Ms27 hm hP, bs, hσ2, if_pos c3, show gA σ1 27 = gA σ 27 by rw [hσ1]; rfl]
        · rw [if_neg (nI_ge (by omega) (by omega)), e_o hm, bs, hV σ1 (by rw [hσ1]; rfl), xb_mk, lN_i, Ms27 hm hP, bs, hσ2, if_neg c3, show gA σ1 27 = gA σ 27 by rw [hσ1]; rfl]
      have g26 : gA σ2 26 = upd (gA σ 26) P (nI (if z ≤ r.2.2.2.2.2.1 then r.2.2.2.2.2.1 else z)) := by rw [hσ2, hσ1]; rfl
      have g27 : gA σ2 27 = upd (gA σ 27) P (nI (if v ≤ r.2.2.2.2.2.2 then r.2.2.2.2.2.2 else v)) := by rw [hσ2, hσ1]; rfl
      have gAo : ∀ q, q ≠ 26 → q ≠ 27 → gA σ2 q = gA σ q := fun q a b => by rw [hσ2, gA_sA, if_neg b, hσ1, gA_sA, if_neg a]
      have gBo : ∀ q, gB σ2 q = gB σ q := fun q => by rw [hσ2, hσ1]; rfl
      have gIo : ∀ q, gI σ2 q = gI σ q := fun q => by rw [hσ2, hσ1]; rfl
      have hf2 : frM σ σ2 := ⟨fun q _ _ => gIo q, fun q => by rw [hσ2, hσ1]; rfl, fun q a _ _ => gAo q (by omega) (by omega), fun q _ => gBo q⟩
      have hRL2 : RL σ2 (xs.set P (w, cmR z v r)) := by
        refine RL_set hr hx (gIo 20) (gAo 21 (by decide) (by decide)) (gAo 22 (by decide) (by decide)) (fun q j hq hj => ?_) (fun j _ => by rw [gBo]) ⟨?_, ?_, ?_, ?_, ?_, fun _ => ⟨?_, ?_⟩⟩
        · by_cases e1 : q = 26
          · rw [e1, g26, upd_ne hj]
          · by_cases e2 : q = 27
            · rw [e2, g27, upd_ne hj]
            · rw [gAo q e1 e2]
        · rw [gAo 23 (by decide) (by decide)]; exact rr.1
        · rw [gAo 28 (by decide) (by decide)]; exact rr.2.1
        · rw [gAo 73 (by decide) (by decide)]; exact rr.2.2.1
        · exact rBy_eq rr.2.2.2.1 (by rw [gAo 24 (by decide) (by decide)]) (by rw [gAo 25 (by decide) (by decide)])
        · rw [gBo]; exact rr.2.2.2.2.1
        · rw [g26, upd_eq]; rfl
        · rw [g27, upd_eq]; rfl
      have h6 : gA σ2 6 = gA σ 6 := gAo 6 (by decide) (by decide)
      obtain ⟨σ', e1, e2, e3, e4, e5, e6⟩ := q_come_204 (t := t) (F := F) (s := s) hm hRL2 (by rw [List.getElem?_set_self hPl]) hP hs (show (cmR z v r).1 ≤ 4 from hok.1) (fun σ' q => hZ σ' (q.trans h6)) (fun σ' q => hV σ' (q.trans h6))
      refine ⟨σ', ?_, ?_, frM_trans hf2 e3, e4.trans (gIo 48), e5.trans (gAo 49 (by decide) (by decide)), e6.trans (gIo 20)⟩
      · by_cases c3 : z ≤ r.2.2.2.2.2.1
        · rw [if_pos c3] at k162
          rw [if_pos (nI_le c3 (by have := hok.2.1; omega)), bs, Ma26 hm hP, bs, (rr.2.2.2.2.2 c2).1, k162, e1]
        · rw [if_neg c3] at k162
          rw [if_neg (nI_ge (by omega) (by omega)), e_o hm, bs, hZ σ rfl, xb_mk, lN_i, k162, e1]
      · rw [if_neg (by show ¬ r.1 < s; omega)] at e2
        unfold cmS
        rw [if_neg (by omega), if_pos ⟨c1, c2⟩]
        exact e2
    · rw [if_neg (fun q => c2 ((nI_eq (by have := hok.1; omega) (by decide)).mp q))]
      exact plain (fun q => c2 q.2)
  · rw [if_neg (fun q => c1 ((nI_eq (by omega) (by decide)).mp q))]
    exact plain (fun q => c1 q.1)
end MCM
