/-! a link's names with what is known of them: text, then (strength, wanted, own, (object, symbol), given, common size, common value) -/
abbrev px_NR : Type := Nat × Bool × Nat × Option (Nat × Nat) × Int64 × Nat × Nat
abbrev px_NL : Type := List (List Nat × px_NR)
def nr0 : px_NR := (0, false, 0, none, lN 0, 0, 0)
def rBy (σ : px_S) (i : Nat) : Option (Nat × Nat) → Prop
  | none => gA σ 24 i = Int32.ofInt (-1)
  | some q => gA σ 24 i = nI q.1 ∧ gA σ 25 i = nI q.2
def rrec (σ : px_S) (i : Nat) (r : px_NR) : Prop := gA σ 23 i = nI r.1 ∧ gA σ 28 i = bI r.2.1 ∧ gA σ 73 i = nI r.2.2.1 ∧ rBy σ i r.2.2.2.1 ∧ gB σ 30 i = r.2.2.2.2.1 ∧ (r.1 = 2 → gA σ 26 i = nI r.2.2.2.2.2.1 ∧ gA σ 27 i = nI r.2.2.2.2.2.2)
def RL (σ : px_S) (xs : px_NL) : Prop := RNm σ (xs.map Prod.fst) ∧ ∀ i x, xs[i]? = some x → rrec σ i x.2
def entL (w : List Nat) (xs : px_NL) : px_NL := if (idx w 0 (xs.map Prod.fst)).isSome = true then xs else xs ++ [(w, nr0)]
theorem rBy_eq {σ σ' : px_S} {i : Nat} {q : Option (Nat × Nat)} (h : rBy σ i q) (h24 : gA σ' 24 i = gA σ 24 i) (h25 : gA σ' 25 i = gA σ 25 i) : rBy σ' i q := by
  cases q with
  | none => exact h24.trans h
  | some q => exact ⟨h24.trans h.1, h25.trans h.2⟩
theorem rrec_eq {σ σ' : px_S} {i : Nat} {r : px_NR} (h : rrec σ i r) (hA : ∀ k, (k = 23 ∨ k = 24 ∨ k = 25 ∨ k = 26 ∨ k = 27 ∨ k = 28 ∨ k = 73) → gA σ' k i = gA σ k i) (hB : gB σ' 30 i = gB σ 30 i) : rrec σ' i r := by
  obtain ⟨a1, a2, a3, a4, a5, a6⟩ := h
  refine ⟨(hA 23 (by omega)).trans a1, (hA 28 (by omega)).trans a2, (hA 73 (by omega)).trans a3, rBy_eq a4 (hA 24 (by omega)) (hA 25 (by omega)), hB.trans a5, fun q => ?_⟩
  rw [hA 26 (by omega), hA 27 (by omega)]
  exact a6 q
theorem RNm_eq {σ σ' : px_S} {ws : List (List Nat)} (h : RNm σ ws) (h20 : gI σ' 20 = gI σ 20) (h21 : gA σ' 21 = gA σ 21) (h22 : gA σ' 22 = gA σ 22) : RNm σ' ws := by
  unfold RNm at h ⊢
  rw [h20, h21, h22]; exact h
theorem idx_some {w : List Nat} : ∀ {l : List (List Nat)} {k i : Nat}, idx w k l = some i → l[i - k]? = some w
  | [], k, i, h => nomatch h
  | v :: l, k, i, h => by
    unfold idx at h
    by_cases c : v = w
    · rw [if_pos c] at h
      cases h
      rw [Nat.sub_self, c]; rfl
    · rw [if_neg c] at h
      have h1 := idx_lt h
      have h2 := idx_some h
      rw [show i - k = (i - (k + 1)) + 1 by omega]
      exact h2
theorem plc_at {w : List Nat} {xs : px_NL} : ∃ r, (entL w xs)[plc w (xs.map Prod.fst)]? = some (w, r) ∧ plc w (xs.map Prod.fst) < (entL w xs).length := by
  unfold plc entL
  cases e : idx w 0 (xs.map Prod.fst) with
  | some i =>
    have h1 := idx_lt e
    have h2 := idx_some e
    rw [Nat.sub_zero, List.getElem?_map] at h2
    rw [List.length_map] at h1
    obtain ⟨x, hx⟩ : ∃ x, xs[i]? = some x := ⟨xs[i]'(by omega), List.getElem?_eq_getElem (by omega)⟩
    rw [hx] at h2
    have h3 : x.1 = w := Option.some.inj h2
    refine ⟨x.2, ?_, ?_⟩
    · show xs[i]? = _
      rw [hx, ← h3]
    · show i < xs.length
      omega
  | none =>
    refine ⟨nr0, ?_, ?_⟩
    · show (xs ++ [(w, nr0)])[(xs.map Prod.fst).length]? = _
      rw [List.length_map, List.getElem?_append_right (Nat.le_refl _), Nat.sub_self]; rfl
    · show (xs.map Prod.fst).length < (xs ++ [(w, nr0)]).length
      rw [List.length_map, List.length_append]
      exact Nat.lt_succ_self _
/-- only the names' rows and their number have changed -/
def frJ (σ σ' : px_S) : Prop := (∀ k, k ≠ 20 → gI σ' k = gI σ k) ∧ (∀ k, gJ σ' k = gJ σ k) ∧ (∀ k, k ≠ 21 → k ≠ 22 → k ≠ 23 → k ≠ 24 → k ≠ 28 → k ≠ 73 → gA σ' k = gA σ k) ∧ (∀ k, k ≠ 30 → gB σ' k = gB σ k)
theorem RL_set {σ σ' : px_S} {xs : px_NL} {i : Nat} {w : List Nat} {r r' : px_NR} (h : RL σ xs) (hx : xs[i]? = some (w, r)) (h20 : gI σ' 20 = gI σ 20) (h21 : gA σ' 21 = gA σ 21) (h22 : gA σ' 22 = gA σ 22) (hA : ∀ k j, (k = 23 ∨ k = 24 ∨ k = 25 ∨ k = 26 ∨ k = 27 ∨ k = 28 ∨ k = 73) → j ≠ i → gA σ' k j = gA σ k j) (hB : ∀ j, j ≠ i → gB σ' 30 j = gB σ 30 j) (hr : rrec σ' i r') : RL σ' (xs.set i (w, r')) := by
  have hi : i < xs.length := (List.getElem?_eq_some_iff.mp hx).1
  have hm : (xs.set i (w, r')).map Prod.fst = xs.map Prod.fst := by
    apply List.ext_getElem?
    intro j
    rw [List.getElem?_map, List.getElem?_map]
    by_cases c : i = j
    · rw [← c, List.getElem?_set_self hi, hx]; rfl
    · rw [List.getElem?_set_ne c]
  refine ⟨by rw [hm]; exact RNm_eq h.1 h20 h21 h22, fun j x hj => ?_⟩
  by_cases c : i = j
  · rw [← c, List.getElem?_set_self hi] at hj
    have : x = (w, r') := (Option.some.inj hj).symm
    rw [this, ← c]; exact hr
  · rw [List.getElem?_set_ne c] at hj
    exact rrec_eq (h.2 j x hj) (fun k hk => hA k j hk (fun q => c q.symm)) (hB j (fun q => c q.symm))
section MTL
variable {F m : Nat} {h : px_H} {σ : px_S} {pa p M ks : Nat} {xs : px_NL} {w : List Nat}
theorem q_enteredL (hm : m ≤ h.length) (hF : 4096 < F) (hr : RL σ xs) (hT : ∀ (σ : px_S) i, i < M → xaI (mh m h σ) 0 pa (nI i) = some (gA σ ks i)) (hks : ks ≠ 21) (hks2 : ks ≠ 22) (hw : okN w) (hs : srcT (gA σ ks) p w) (hM : p + w.length ≤ M) (hM2 : M < 2 ^ 31) (hl : xs.length < 4096) : ∃ σ', f_M_entered F m pa (nI p) (nI (p + w.length)) (mh m h σ) = some (nI (plc w (xs.map Prod.fst)), mh m h σ') ∧ RL σ' (entL w xs) ∧ frJ σ σ' := by
  obtain ⟨σ', e1, e2, e3, e4⟩ := q_entered (F := F) hm hF hr.1 hT hks hks2 hw hs hM hM2 (by rw [List.length_map]; exact hl)
  refine ⟨σ', e1, ?_, ?_⟩
  · unfold entL ent at *
    by_cases c : (idx w 0 (xs.map Prod.fst)).isSome = true
    · rw [if_pos c] at e2 ⊢
      rw [e3 c]; exact hr
    · rw [if_neg c] at e2 ⊢
      obtain ⟨f1, f2, f3, f4, f5, f6, f7, f8, f9⟩ := e4 (Bool.eq_false_iff.mpr c)
      rw [List.length_map] at f5 f6 f7 f8 f9
      refine ⟨by rw [List.map_append]; exact e2, fun i x hx => ?_⟩
      by_cases ci : i < xs.length
      · rw [List.getElem?_append_left ci] at hx
        have hne : i ≠ xs.length := by omega
        refine rrec_eq (hr.2 i x hx) (fun k hk => ?_) (by rw [f9]; unfold vp_updL; exact if_neg hne)
        rcases hk with e | e | e | e | e | e | e
        · rw [e, f5, upd_ne hne]
        · rw [e, f6, upd_ne hne]
        · rw [e, f3 25 (by decide) (by decide) (by decide) (by decide) (by decide) (by decide)]
        · rw [e, f3 26 (by decide) (by decide) (by decide) (by decide) (by decide) (by decide)]
        · rw [e, f3 27 (by decide) (by decide) (by decide) (by decide) (by decide) (by decide)]
        · rw [e, f7, upd_ne hne]
        · rw [e, f8, upd_ne hne]
      · have hi : i = xs.length := by
          have := (List.getElem?_eq_some_iff.mp hx).1
          rw [List.length_append] at this
          have h1 : [(w, nr0)].length = 1 := rfl
          omega
        rw [hi, List.getElem?_append_right (Nat.le_refl _), Nat.sub_self] at hx
        have hx2 : x = (w, nr0) := (Option.some.inj hx).symm
        rw [hi, hx2]
        refine ⟨by rw [f5, upd_eq]; rfl, by rw [f7, upd_eq]; rfl, by rw [f8, upd_eq]; rfl, ?_, by rw [f9]; unfold vp_updL; exact if_pos rfl, fun q => nomatch q⟩
        show gA σ' 24 xs.length = _
        rw [f6, upd_eq]
  · by_cases c : (idx w 0 (xs.map Prod.fst)).isSome = true
    · rw [e3 c]
      exact ⟨fun _ _ => rfl, fun _ => rfl, fun _ _ _ _ _ _ _ => rfl, fun _ _ => rfl⟩
    · obtain ⟨f1, f2, f3, f4, f5⟩ := e4 (Bool.eq_false_iff.mpr c)
      exact ⟨f1, f2, f3, f4⟩
end MTL
