/-! the reference's tree of strings' ends -/
def byt (c : Nat) : Int32 := (nI c).toInt8.toInt32
theorem byt_eq {a b : Nat} (ha : a < 256) (hb : b < 256) : byt a = byt b ↔ a = b := byte_inj ha hb
def hdT (u : List Nat) : Option (List Nat) → Bool
  | some (_ :: v) => decide (v = u)
  | _ => false
/-- node k is a child of the node of u -/
def chB (nd : List (List Nat)) (u : List Nat) : Nat → Bool
  | 0 => false
  | k + 1 => hdT u nd[k]?
theorem chB_s {nd : List (List Nat)} {u : List Nat} {k : Nat} : chB nd u (k + 1) = hdT u nd[k]? := rfl
theorem chB_iff {nd : List (List Nat)} {u : List Nat} {k : Nat} : chB nd u (k + 1) = true ↔ ∃ c, nd[k]? = some (c :: u) := by
  rw [chB_s]
  cases e : nd[k]? with
  | none => exact ⟨fun q => (nomatch q), fun ⟨c, q⟩ => (nomatch q)⟩
  | some w =>
    cases w with
    | nil => exact ⟨fun q => (nomatch q), fun ⟨c, q⟩ => by have := Option.some.inj q; cases this⟩
    | cons c v =>
      show decide (v = u) = true ↔ _
      rw [decide_eq_true_iff]
      exact ⟨fun q => ⟨c, by rw [q]⟩, fun ⟨c', q⟩ => by have := Option.some.inj q; injection this⟩
/-- the last child of u below lim -/
def lst (nd : List (List Nat)) (u : List Nat) : Nat → Nat
  | 0 => 0
  | lim + 1 => if chB nd u lim = true then lim else lst nd u lim
theorem lst_s {nd : List (List Nat)} {u : List Nat} {lim : Nat} : lst nd u (lim + 1) = if chB nd u lim = true then lim else lst nd u lim := rfl
theorem lst_le {nd : List (List Nat)} {u : List Nat} : ∀ lim, lst nd u lim ≤ lim := by
  intro lim
  induction lim with
  | zero => exact Nat.le_refl _
  | succ n ih => rw [lst_s]; split <;> omega
theorem lst_app {nd : List (List Nat)} {u w : List Nat} : ∀ lim, lim ≤ nd.length + 1 → lst (nd ++ [w]) u lim = lst nd u lim := by
  intro lim
  induction lim with
  | zero => intro _; rfl
  | succ n ih =>
    intro h
    rw [lst_s, lst_s, ih (by omega)]
    have e : chB (nd ++ [w]) u n = chB nd u n := by
      cases n with
      | zero => rfl
      | succ n =>
        rw [chB_s, chB_s, List.getElem?_append_left (by omega)]
    rw [e]
/-- the node of w, 0 without one -/
def nIx (nd : List (List Nat)) (w : List Nat) : Nat := match idx w 0 nd with
  | none => 0
  | some i => i + 1
theorem idx_nd {nd : List (List Nat)} {w : List Nat} {i : Nat} (hd : nd.Nodup) (h : nd[i]? = some w) : idx w 0 nd = some i := by
  obtain ⟨j, hj⟩ := Option.isSome_iff_exists.mp (idx_mem (k := 0) h)
  have h1 := idx_some hj
  rw [Nat.sub_zero] at h1
  have l1 := (List.getElem?_eq_some_iff.mp h).1
  have l2 := (List.getElem?_eq_some_iff.mp h1).1
  have e1 := (List.getElem?_eq_some_iff.mp h).2
  have e2 := (List.getElem?_eq_some_iff.mp h1).2
  have : j = i := (List.getElem_inj hd (h₀ := l2) (h₁ := l1)).mp (e2.trans e1.symm)
  rw [hj, this]
/-- the tree, as the reference's rows have it -/
def TR (σ : px_S) (nd : List (List Nat)) : Prop := gI σ 89 = nI (nd.length + 1) ∧ nd[0]? = some [] ∧ nd.Nodup ∧ (∀ s, s ∈ nd → ∀ x, x ∈ s → x < 256) ∧ (∀ c v, c :: v ∈ nd → v ∈ nd) ∧ ∀ k u, nd[k]? = some u → gA σ 92 (k + 1) = nI (lst nd u (nd.length + 1)) ∧ ∀ c v, u = c :: v → gA σ 95 (k + 1) = byt c ∧ gA σ 93 (k + 1) = nI (lst nd v (k + 1))
abbrev trA : List Nat := [92, 93, 94, 95]
section MTR
variable {F m : Nat} {h : px_H} {σ : px_S} {nd : List (List Nat)} {u : List Nat} {c0 node : Nat} {mk : Int32}
theorem q_cO_8 (hm : m ≤ h.length) (ht : TR σ nd) (hN : nd.length ≤ 65538) (hc : c0 < 256) : ∀ (lim g : Nat), lim ≤ nd.length + 1 → lim < g → f_M_childOf_8 F g m (nI node) (byt c0) mk (nI (lst nd u lim)) (mh m h σ) = f_M_childOf_36 F m (nI node) (byt c0) mk (nI (if nIx nd (c0 :: u) < lim then nIx nd (c0 :: u) else 0)) (mh m h σ) := by
  obtain ⟨t1, t2, t3, t4, t5, t6⟩ := ht
  intro lim
  induction lim with
  | zero =>
    intro g _ hg
    obtain ⟨g, rfl⟩ : ∃ x, g = x + 1 := ⟨g - 1, by omega⟩
    unfold f_M_childOf_8
    rw [if_neg (Nat.not_lt_zero _)]
    exact if_pos (show nI 0 ≤ 0 by decide)
  | succ k ih =>
    intro g hl hg
    rw [lst_s]
    by_cases c1 : chB nd u k = true
    · rw [if_pos c1]
      cases k with
      | zero => exact nomatch c1
      | succ k =>
        obtain ⟨c, hk⟩ := chB_iff.mp c1
        obtain ⟨g, rfl⟩ : ∃ x, g = x + 1 := ⟨g - 1, by omega⟩
        have hkl := (List.getElem?_eq_some_iff.mp hk).1
        have r := (t6 k _ hk).2 c u rfl
        have hc2 : c < 256 := t4 _ (List.mem_of_getElem? hk) c List.mem_cons_self
        unfold f_M_childOf_8
        rw [if_neg (show ¬ nI (k + 1) ≤ 0 from nI_ge (a := 0) (by omega) (by omega)), Mr95 hm, bs, Ma95 hm (by omega), bs, r.1]
        by_cases c2 : c = c0
        · rw [if_pos (by rw [c2])]
          have e : nIx nd (c0 :: u) = k + 1 := by unfold nIx; rw [idx_nd t3 (by rw [← c2]; exact hk)]
          rw [e, if_pos (by omega)]
        · rw [if_neg (fun q => c2 ((byt_eq hc2 hc).mp q)), Mr93 hm, bs, Ma93 hm (by omega), bs, r.2, ih g (by omega) (by omega)]
          have e : (nIx nd (c0 :: u) < k + 1) ↔ (nIx nd (c0 :: u) < k + 1 + 1) := by
            constructor
            · intro q; omega
            · intro q
              have : nIx nd (c0 :: u) ≠ k + 1 := fun e => by
                unfold nIx at e
                cases e2 : idx (c0 :: u) 0 nd with
                | none => rw [e2] at e; exact absurd e (by show ¬ (0 = k + 1); omega)
                | some i =>
                  rw [e2] at e
                  have e : i + 1 = k + 1 := e
                  have e3 := idx_some e2
                  rw [Nat.sub_zero, show i = k by omega, hk] at e3
                  have := Option.some.inj e3
                  injection this with e4
                  exact c2 e4
              omega
          by_cases c3 : nIx nd (c0 :: u) < k + 1
          · rw [if_pos c3, if_pos (e.mp c3)]
          · rw [if_neg c3, if_neg (fun q => c3 (e.mpr q))]
    · rw [if_neg c1, ih g (by omega) (by omega)]
      have : nIx nd (c0 :: u) ≠ k ∨ nIx nd (c0 :: u) = 0 := by
        by_cases e : nIx nd (c0 :: u) = k
        · right
          unfold nIx at e ⊢
          cases e2 : idx (c0 :: u) 0 nd with
          | none => rfl
          | some i =>
            rw [e2] at e
            have e : i + 1 = k := e
            have e3 := idx_some e2
            rw [Nat.sub_zero] at e3
            exact absurd (by rw [← e]; exact chB_iff.mpr ⟨c0, e3⟩) c1
        · exact Or.inl e
      by_cases c3 : nIx nd (c0 :: u) < k
      · rw [if_pos c3, if_pos (by omega)]
      · rw [if_neg c3]
        by_cases c4 : nIx nd (c0 :: u) < k + 1
        · rw [if_pos c4]
          rcases this with e | e
          · omega
          · rw [e]
        · rw [if_neg c4]
theorem nIx_lt {w : List Nat} : nIx nd w < nd.length + 1 := by
  unfold nIx
  cases e : idx w 0 nd with
  | none => exact Nat.zero_lt_succ _
  | some i => have := idx_lt e; show i + 1 < _; omega
/-- what a new node needs -/
theorem q_childOf (hm : m ≤ h.length) (hF : 65540 < F) (ht : TR σ nd) (hN : nd.length ≤ 65536) (hc : c0 < 256) {k : Nat} (hk : nd[k]? = some u) (hmk : mk = nI 1 ∨ (mk = nI 0 ∧ c0 :: u ∈ nd)) : ∃ σ', f_M_childOf F m (nI (k + 1)) (byt c0) mk (mh m h σ) = some (nI (plc (c0 :: u) nd + 1), mh m h σ') ∧ TR σ' (ent (c0 :: u) nd) ∧ (c0 :: u ∈ nd → σ' = σ) ∧ (c0 :: u ∉ nd → gA σ' 94 = upd (gA σ 94) (nd.length + 1) (Int32.ofInt (-1))) ∧ FR [89] [] trA [] σ σ' := by
  have ht0 := ht
  obtain ⟨t1, t2, t3, t4, t5, t6⟩ := ht
  have hkl := (List.getElem?_eq_some_iff.mp hk).1
  have e8 := q_cO_8 (F := F) (h := h) (u := u) (node := k + 1) (mk := mk) hm ht0 (by omega) hc (nd.length + 1) F (Nat.le_refl _) (by omega)
  unfold f_M_childOf
  rw [Mr92 hm, bs, Ma92 hm (by omega), bs, (t6 k u hk).1, e8, if_pos nIx_lt]
  by_cases c1 : c0 :: u ∈ nd
  · obtain ⟨i, hi⟩ := Option.isSome_iff_exists.mp (idx_iff.mpr c1)
    have e1 : nIx nd (c0 :: u) = i + 1 := by unfold nIx; rw [hi]
    have e2 : plc (c0 :: u) nd = i := by unfold plc; rw [hi]; rfl
    have e3 : ent (c0 :: u) nd = nd := by unfold ent; rw [if_pos (idx_iff.mpr c1)]
    have := idx_lt hi
    unfold f_M_childOf_36 f_M_childOf_45
    rw [e1, e2, e3, if_pos (show (0 : Int32) < nI (i + 1) from nI_lt (a := 0) (by omega) (by omega))]
    exact ⟨σ, rfl, ht0, fun _ => rfl, fun q => absurd c1 q, FR_refl σ⟩
  · have hi : idx (c0 :: u) 0 nd = none := by
      cases e : idx (c0 :: u) 0 nd with
      | none => rfl
      | some i => exact absurd (idx_iff.mp (by rw [e]; rfl)) c1
    have e1 : nIx nd (c0 :: u) = 0 := by unfold nIx; rw [hi]
    have e2 : plc (c0 :: u) nd = nd.length := by unfold plc; rw [hi]; rfl
    have e3 : ent (c0 :: u) nd = nd ++ [c0 :: u] := by unfold ent; rw [if_neg (by rw [hi]; decide)]
    have hmk1 : mk = nI 1 := hmk.elim id (fun q => absurd q.2 c1)
    have hcB : isB (byt c0) := isB_n8 c0 hc
    rw [e1, e2, e3, hmk1]
    obtain ⟨σ1, hσ1⟩ : ∃ x, x = sA σ 95 (upd (gA σ 95) (nd.length + 1) (byt c0)) := ⟨_, rfl⟩
    have f1 : FR [] [] [95] [] σ σ1 := by rw [hσ1]; exact FR_A σ 95 _
    obtain ⟨σ2, hσ2⟩ : ∃ x, x = sA σ1 92 (upd (gA σ1 92) (nd.length + 1) (nI 0)) := ⟨_, rfl⟩
    have f2 : FR [] [] [92] [] σ1 σ2 := by rw [hσ2]; exact FR_A σ1 92 _
    obtain ⟨σ3, hσ3⟩ : ∃ x, x = sA σ2 94 (upd (gA σ2 94) (nd.length + 1) (Int32.ofInt (-1))) := ⟨_, rfl⟩
    have f3 : FR [] [] [94] [] σ2 σ3 := by rw [hσ3]; exact FR_A σ2 94 _
    have g92a : gA σ3 92 = upd (gA σ 92) (nd.length + 1) (nI 0) := by rw [f3.2.2.1 92 (by decide), hσ2, gA_sA, if_pos rfl, f1.2.2.1 92 (by decide)]
    have r92 : gA σ3 92 (k + 1) = nI (lst nd u (nd.length + 1)) := by rw [g92a, upd_ne (by omega)]; exact (t6 k u hk).1
    obtain ⟨σ4, hσ4⟩ : ∃ x, x = sA σ3 93 (upd (gA σ3 93) (nd.length + 1) (nI (lst nd u (nd.length + 1)))) := ⟨_, rfl⟩
    have f4 : FR [] [] [93] [] σ3 σ4 := by rw [hσ4]; exact FR_A σ3 93 _
    obtain ⟨σ5, hσ5⟩ : ∃ x, x = sA σ4 92 (upd (gA σ4 92) (k + 1) (nI (nd.length + 1))) := ⟨_, rfl⟩
    have f5 : FR [] [] [92] [] σ4 σ5 := by rw [hσ5]; exact FR_A σ4 92 _
    obtain ⟨σ6, hσ6⟩ : ∃ x, x = sI σ5 89 (nI (nd.length + 2)) := ⟨_, rfl⟩
    have f6 : FR [89] [] [] [] σ5 σ6 := by rw [hσ6]; exact FR_I σ5 89 _
    have i5 : gI σ5 89 = nI (nd.length + 1) := by rw [f5.1 89 (by decide), f4.1 89 (by decide), f3.1 89 (by decide), f2.1 89 (by decide), f1.1 89 (by decide)]; exact t1
    have g92 : gA σ6 92 = upd (upd (gA σ 92) (nd.length + 1) (nI 0)) (k + 1) (nI (nd.length + 1)) := by rw [f6.2.2.1 92 (by decide), hσ5, gA_sA, if_pos rfl, f4.2.2.1 92 (by decide), g92a]
    have g93 : gA σ6 93 = upd (gA σ 93) (nd.length + 1) (nI (lst nd u (nd.length + 1))) := by rw [f6.2.2.1 93 (by decide), f5.2.2.1 93 (by decide), hσ4, gA_sA, if_pos rfl, f3.2.2.1 93 (by decide), f2.2.2.1 93 (by decide), f1.2.2.1 93 (by decide)]
    have g94 : gA σ6 94 = upd (gA σ 94) (nd.length + 1) (Int32.ofInt (-1)) := by rw [f6.2.2.1 94 (by decide), f5.2.2.1 94 (by decide), f4.2.2.1 94 (by decide), hσ3, gA_sA, if_pos rfl, f2.2.2.1 94 (by decide), f1.2.2.1 94 (by decide)]
    have g95 : gA σ6 95 = upd (gA σ 95) (nd.length + 1) (byt c0) := by rw [f6.2.2.1 95 (by decide), f5.2.2.1 95 (by decide), f4.2.2.1 95 (by decide), f3.2.2.1 95 (by decide), f2.2.2.1 95 (by decide), hσ1, gA_sA, if_pos rfl]
    have hmm : c0 :: u ∉ nd := c1
    have hum : u ∈ nd := List.mem_of_getElem? hk
    refine ⟨σ6, ?_, ⟨?_, ?_, ?_, ?_, ?_, ?_⟩, fun q => absurd q c1, fun _ => g94, ?_⟩
    · unfold f_M_childOf_36
      rw [if_neg (show ¬ (0 : Int32) < nI 0 by decide), if_neg (show ¬ nI 1 = 0 by decide), Mg89 hm, bs, t1, Mr95 hm, bs, isB_n hcB, Ms95 hm (by omega), bs, ← hσ1, Mr92 hm, bs, Ms92 hm (by omega), bs, ← hσ2, Mr94 hm, bs, Ms94 hm (by omega), bs, ← hσ3, Mr93 hm, bs, Mr92 hm, bs, Ma92 hm (by omega), bs, r92, Ms93 hm (by omega), bs, ← hσ4, Mr92 hm, bs, Ms92 hm (by omega), bs, ← hσ5, Mg89 hm, bs, i5, nI_add, Mp89 hm, bs, ← hσ6]
    · rw [hσ6, gI_sI, if_pos rfl, List.length_append]; rfl
    · rw [List.getElem?_append_left (by omega)]; exact t2
    · rw [List.nodup_append]
      exact ⟨t3, List.nodup_cons.mpr ⟨List.not_mem_nil, List.nodup_nil⟩, fun x hx y hy e => c1 (by rw [List.mem_singleton.mp hy] at e; exact e ▸ hx)⟩
    · intro s hs x hx
      rcases List.mem_append.mp hs with hs | hs
      · exact t4 s hs x hx
      · rw [List.mem_singleton.mp hs] at hx
        rcases List.mem_cons.mp hx with e | e
        · rw [e]; exact hc
        · exact t4 u hum x e
    · intro c v hv
      rcases List.mem_append.mp hv with hv | hv
      · exact List.mem_append_left _ (t5 c v hv)
      · have := List.mem_singleton.mp hv
        injection this with e1 e2
        rw [e2]; exact List.mem_append_left _ hum
    · intro j w hw
      rw [List.length_append]
      show gA σ6 92 (j + 1) = nI (lst (nd ++ [c0 :: u]) w (nd.length + 1 + 1)) ∧ _
      rw [g92, g93, g95]
      by_cases cj : j < nd.length
      · rw [List.getElem?_append_left cj] at hw
        have hr := t6 j w hw
        constructor
        · by_cases cjk : j = k
          · have ew : w = u := by rw [cjk, hk] at hw; exact (Option.some.inj hw).symm
            rw [cjk, upd_eq, ew, lst_s, if_pos]
            exact chB_iff.mpr ⟨c0, by rw [List.getElem?_append_right (Nat.le_refl _), Nat.sub_self]; rfl⟩
          · have ew : w ≠ u := fun e => by
              rw [e] at hw
              have h1 := idx_nd t3 hw
              have h2 := idx_nd t3 hk
              rw [h1] at h2
              exact cjk (Option.some.inj h2)
            rw [upd_ne (by omega), upd_ne (by omega), hr.1, lst_s (lim := nd.length + 1) (nd := nd ++ [c0 :: u]), if_neg, lst_app _ (Nat.le_refl _)]
            intro q
            obtain ⟨c, hq⟩ := chB_iff.mp q
            rw [List.getElem?_append_right (Nat.le_refl _), Nat.sub_self] at hq
            have hq : c0 :: u = c :: w := Option.some.inj hq
            injection hq with _ hq2
            exact ew hq2.symm
        · intro c v hv
          rw [upd_ne (by omega), upd_ne (by omega), lst_app _ (by omega)]
          exact hr.2 c v hv
      · have hl := (List.getElem?_eq_some_iff.mp hw).1
        rw [List.length_append] at hl
        have hl : j < nd.length + 1 := hl
        have ej : j = nd.length := by omega
        rw [ej, List.getElem?_append_right (Nat.le_refl _), Nat.sub_self] at hw
        have hw : c0 :: u = w := Option.some.inj hw
        rw [ej, upd_ne (by omega), upd_eq, upd_eq, upd_eq]
        constructor
        · have e0 : ∀ lim, lst (nd ++ [c0 :: u]) w lim = 0 := by
            intro lim
            induction lim with
            | zero => rfl
            | succ n ih =>
              rw [lst_s, ih, if_neg]
              intro q
              cases n with
              | zero => exact nomatch q
              | succ n =>
                obtain ⟨c, hq⟩ := chB_iff.mp q
                have hm2 := List.mem_of_getElem? hq
                rcases List.mem_append.mp hm2 with hm2 | hm2
                · have := t5 c w hm2
                  rw [← hw] at this
                  exact c1 this
                · have := List.mem_singleton.mp hm2
                  rw [← hw] at this
                  injection this with _ e5
                  have := congrArg List.length e5
                  rw [List.length_cons] at this
                  omega
          rw [e0]
        · intro c v hv
          rw [← hw] at hv
          injection hv with e5 e6
          rw [← e5, ← e6, lst_app _ (Nat.le_refl _)]
          exact ⟨rfl, rfl⟩
    · exact FR_trans (FR_mono f1 (by decide) (by decide) (by decide) (by decide)) (FR_trans (FR_mono f2 (by decide) (by decide) (by decide) (by decide)) (FR_trans (FR_mono f3 (by decide) (by decide) (by decide) (by decide)) (FR_trans (FR_mono f4 (by decide) (by decide) (by decide) (by decide)) (FR_trans (FR_mono f5 (by decide) (by decide) (by decide) (by decide)) (FR_mono f6 (by decide) (by decide) (by decide) (by decide))))))
theorem q_childOf7 (hm : m ≤ h.length) (hF : 65540 < F) (ht : TR σ nd) (hN : nd.length ≤ 65538) (hc : c0 < 256) {k : Nat} (hk : nd[k]? = some u) (c1 : c0 :: u ∈ nd) : ∃ σ', f_M_childOf F m (nI (k + 1)) (byt c0) mk (mh m h σ) = some (nI (plc (c0 :: u) nd + 1), mh m h σ') ∧ TR σ' (ent (c0 :: u) nd) ∧ (c0 :: u ∈ nd → σ' = σ) ∧ (c0 :: u ∉ nd → gA σ' 94 = upd (gA σ 94) (nd.length + 1) (Int32.ofInt (-1))) ∧ FR [89] [] trA [] σ σ' := by
  have ht0 := ht
  obtain ⟨t1, t2, t3, t4, t5, t6⟩ := ht
  have hkl := (List.getElem?_eq_some_iff.mp hk).1
  have e8 := q_cO_8 (F := F) (h := h) (u := u) (node := k + 1) (mk := mk) hm ht0 (by omega) hc (nd.length + 1) F (Nat.le_refl _) (by omega)
  unfold f_M_childOf
  rw [Mr92 hm, bs, Ma92 hm (by omega), bs, (t6 k u hk).1, e8, if_pos nIx_lt]
  obtain ⟨i, hi⟩ := Option.isSome_iff_exists.mp (idx_iff.mpr c1)
  have e1 : nIx nd (c0 :: u) = i + 1 := by unfold nIx; rw [hi]
  have e2 : plc (c0 :: u) nd = i := by unfold plc; rw [hi]; rfl
  have e3 : ent (c0 :: u) nd = nd := by unfold ent; rw [if_pos (idx_iff.mpr c1)]
  have := idx_lt hi
  unfold f_M_childOf_36 f_M_childOf_45
  rw [e1, e2, e3, if_pos (show (0 : Int32) < nI (i + 1) from nI_lt (a := 0) (by omega) (by omega))]
  exact ⟨σ, rfl, ht0, fun _ => rfl, fun q => absurd c1 q, FR_refl σ⟩
end MTR
