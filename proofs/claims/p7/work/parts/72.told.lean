/-! give, wish, forget of the reference -/
/-- the names given -/
def RG (σ : px_S) (gs : List (List Nat × Int64)) : Prop := gI σ 31 = nI gs.length ∧ RN σ 33 35 (gs.map Prod.fst) ∧ ∀ i x, gs[i]? = some x → gB σ 37 i = x.2
/-- the names wished -/
def RW (σ : px_S) (ws : List (List Nat)) : Prop := gI σ 32 = nI ws.length ∧ RN σ 34 36 ws
/-- nothing has changed but what the telling of a name changes -/
def frG (σ σ' : px_S) : Prop := (∀ k, k ≠ 0 → k ≠ 2 → k ≠ 31 → k ≠ 32 → gI σ' k = gI σ k) ∧ (∀ k, gJ σ' k = gJ σ k) ∧ (∀ k, k ≠ 37 → gB σ' k = gB σ k) ∧ (∀ k, k ≠ 33 → k ≠ 34 → k ≠ 35 → k ≠ 36 → gA σ' k = gA σ k)
theorem RN_eq {σ σ' : px_S} {ka kb : Nat} {ws : List (List Nat)} (h : RN σ ka kb ws) (h1 : gA σ' ka = gA σ ka) (h2 : gA σ' kb = gA σ kb) : RN σ' ka kb ws := by
  unfold RN at h ⊢
  rw [h1, h2]; exact h
theorem RN_add {σ σ' : px_S} {ka kb n : Nat} {b : Nat → Nat} {ws : List (List Nat)} (h : RN σ ka kb ws) (hl : ws.length < 16) (hn : n ≤ 20) (hT : ∀ k, isB (gA σ 1 k)) (hb : cb (gA σ 1) 0 n = b) (h1 : gA σ' ka = put (gA σ ka) (gA σ 1) (20 * ws.length) n) (h2 : gA σ' kb = upd (gA σ kb) ws.length (nI n)) : RN σ' ka kb (ws ++ [tk b 0 n]) := by
  refine ⟨by rw [List.length_append]; exact hl, fun i w hw => ?_⟩
  by_cases c : i < ws.length
  · rw [List.getElem?_append_left c] at hw
    obtain ⟨a1, a2, a3⟩ := h.2 i w hw
    refine ⟨a1, ?_, fun j x hx => ?_⟩
    · rw [h2, upd_ne (by omega), a2]
    · have hj : j < w.length := (List.getElem?_eq_some_iff.mp hx).1
      have := a1.1
      rw [h1]
      unfold put
      rw [if_neg (by omega)]
      exact a3 j x hx
  · rw [List.getElem?_append_right (by omega)] at hw
    have hi : i - ws.length = 0 := by
      have := (List.getElem?_eq_some_iff.mp hw).1
      simp at this
      omega
    rw [hi] at hw
    have hi2 : i = ws.length := by omega
    have hw2 : w = tk b 0 n := (Option.some.inj hw).symm
    have hb8 : ∀ k, b k < 256 := fun k => by rw [← hb]; exact cb_lt _ _ _ _
    refine ⟨⟨by rw [hw2, tk_len]; exact hn, by rw [hw2]; exact tk_lt hb8 0 n⟩, ?_, fun j x hx => ?_⟩
    · rw [h2, hi2, upd_eq, hw2, tk_len]
    · have hj : j < n := by
        have := (List.getElem?_eq_some_iff.mp hx).1
        rw [hw2, tk_len] at this
        exact this
      rw [hw2, tk_get b 0 n j hj, Nat.zero_add] at hx
      have hx2 : b j = x := Option.some.inj hx
      rw [h1, hi2]
      unfold put
      rw [if_pos (by omega), Nat.add_sub_cancel_left, ← hx2, ← hb]
      unfold cb
      rw [if_pos hj, Nat.zero_add]
      exact hT j
theorem idx_lt {w : List Nat} : ∀ {l : List (List Nat)} {k i : Nat}, idx w k l = some i → k ≤ i ∧ i < k + l.length
  | [], k, i, h => nomatch h
  | v :: l, k, i, h => by
    unfold idx at h
    rw [List.length_cons]
    by_cases c : v = w
    · rw [if_pos c] at h
      cases h
      omega
    · rw [if_neg c] at h
      have := idx_lt h
      omega
section TLE
variable {F m : Nat} {h : px_H} {σ : px_S} {n : Nat} {b : Nat → Nat}
theorem q_give_78 (hm : m ≤ h.length) {l : Nat} {v : Int64} (hl : l < 16) (hn : n ≤ 20) : ∀ (c k g : Nat) (σ : px_S) (B : Nat → Int32), k + c = n → c < g → gI σ 31 = nI l → (∀ k, isB (gA σ 1 k)) → gA σ 33 = put B (gA σ 1) (20 * l) k → f_M_give_78 F g m v (nI n) (nI k) (mh m h σ) = f_M_give_113 F m v (nI n) (mh m h (sA σ 33 (put B (gA σ 1) (20 * l) n))) := by
  intro c
  induction c with
  | zero =>
    intro k g σ B hk hg h5 hB h6
    obtain ⟨g, rfl⟩ : ∃ x, g = x + 1 := ⟨g - 1, by omega⟩
    unfold f_M_give_78
    rw [if_pos (nI_le (by omega) (by omega)), show n = k by omega, ← h6, sA_self]
  | succ c ih =>
    intro k g σ B hk hg h5 hB h6
    obtain ⟨g, rfl⟩ : ∃ x, g = x + 1 := ⟨g - 1, by omega⟩
    unfold f_M_give_78
    rw [if_neg (nI_ge (by omega) (by omega)), Mr33 hm, bs, Mg31 hm, bs, h5, Mr1 hm, bs, Ma1 hm (by omega), bs, pk_mul, nI_add, isB_n (hB k), Ms33 hm (by omega), bs, h6, put_s, nI_add, ih (k + 1) g (sA σ 33 (put B (gA σ 1) (20 * l) (k + 1))) B (by omega) (by omega) h5 hB rfl, sA_sA]
    rfl
theorem q_wish_75 (hm : m ≤ h.length) {l : Nat} (hl : l < 16) (hn : n ≤ 20) : ∀ (c k g : Nat) (σ : px_S) (B : Nat → Int32), k + c = n → c < g → gI σ 32 = nI l → (∀ k, isB (gA σ 1 k)) → gA σ 34 = put B (gA σ 1) (20 * l) k → f_M_wish_75 F g m (nI n) (nI k) (mh m h σ) = f_M_wish_109 F m (nI n) (mh m h (sA σ 34 (put B (gA σ 1) (20 * l) n))) := by
  intro c
  induction c with
  | zero =>
    intro k g σ B hk hg h5 hB h6
    obtain ⟨g, rfl⟩ : ∃ x, g = x + 1 := ⟨g - 1, by omega⟩
    unfold f_M_wish_75
    rw [if_pos (nI_le (by omega) (by omega)), show n = k by omega, ← h6, sA_self]
  | succ c ih =>
    intro k g σ B hk hg h5 hB h6
    obtain ⟨g, rfl⟩ : ∃ x, g = x + 1 := ⟨g - 1, by omega⟩
    unfold f_M_wish_75
    rw [if_neg (nI_ge (by omega) (by omega)), Mr34 hm, bs, Mg32 hm, bs, h5, Mr1 hm, bs, Ma1 hm (by omega), bs, pk_mul, nI_add, isB_n (hB k), Ms34 hm (by omega), bs, h6, put_s, nI_add, ih (k + 1) g (sA σ 34 (put B (gA σ 1) (20 * l) (k + 1))) B (by omega) (by omega) h5 hB rfl, sA_sA]
    rfl
theorem RT_clr {σ' : px_S} (ht : RT σ n b) (h2 : gI σ' 2 = nI 0) (h1 : gA σ' 1 = gA σ 1) : RT σ' 0 (fun _ => 0) := by
  refine ⟨h2, by omega, by rw [h1]; exact ht.2.2.1, ?_⟩
  funext i
  exact if_neg (Nat.not_lt_zero _)
/-- what give says of its name: 0 taken, 1 no name, 2 told already, or 16 are -/
def gcd' (b : Nat → Nat) (n : Nat) (ws : List (List Nat)) : Nat := if tnm b n = true then (if ws.length = 16 ∨ (idx (tk b 0 n) 0 ws).isSome = true then 2 else 0) else 1
theorem tnm_n (h : tnm b n = true) : 1 ≤ n ∧ n ≤ 20 ∧ nzf b 0 n = true := by
  unfold tnm at h
  rw [Bool.and_eq_true, Bool.and_eq_true, decide_eq_true_iff, decide_eq_true_iff] at h
  exact ⟨h.1.1, h.1.2, h.2⟩
theorem m1_neg : Int32.ofInt (-1) < 0 := by decide
theorem q_give_no {v : Int64} (hm : m ≤ h.length) (ht : RT σ n b) (p q : Bool) (hpq : (p || q) = true) : f_M_give_50 F m v (bI p) (bI q) (mh m h σ) = some (nI 0, mh m h (sI (sI σ 2 (nI 0)) 0 (nI (thr p q)))) := by
  unfold f_M_give_50
  rw [Mg2 hm, bs, Mp2 hm, bs, e_o hm, bs, q_throwing hm p q, xb_mk, hpq, if_neg (show ¬ bI true = 0 by decide)]
theorem q_wish_no (hm : m ≤ h.length) (ht : RT σ n b) (p q : Bool) (hpq : (p || q) = true) : f_M_wish_50 F m (bI p) (bI q) (mh m h σ) = some (nI 0, mh m h (sI (sI σ 2 (nI 0)) 0 (nI (thr p q)))) := by
  unfold f_M_wish_50
  rw [Mg2 hm, bs, Mp2 hm, bs, e_o hm, bs, q_throwing hm p q, xb_mk, hpq, if_neg (show ¬ bI true = 0 by decide)]
theorem q_give {v : Int64} {gs : List (List Nat × Int64)} {ws : List (List Nat)} (hm : m ≤ h.length) (hF : 8192 < F) (ht : RT σ n b) (hg : RG σ gs) (hw : RW σ ws) : ∃ σ', f_M_give F m v (mh m h σ) = some (nI (if gcd' b n (gs.map Prod.fst) = 0 then gs.length + 1 else 0), mh m h σ') ∧ gI σ' 0 = nI (gcd' b n (gs.map Prod.fst)) ∧ frG σ σ' ∧ RT σ' 0 (fun _ => 0) ∧ RW σ' ws ∧ RG σ' (if gcd' b n (gs.map Prod.fst) = 0 then gs ++ [(tk b 0 n, v)] else gs) := by
  obtain ⟨g1, g2, g3⟩ := hg
  have hgl : gs.length ≤ 16 := by have := g2.1; rw [List.length_map] at this; exact this
  have fin : ∀ (p q : Bool), f_M_give F m v (mh m h σ) = some (nI 0, mh m h (sI (sI σ 2 (nI 0)) 0 (nI (thr p q)))) → gcd' b n (gs.map Prod.fst) = thr p q → (p || q) = true → ∃ σ', f_M_give F m v (mh m h σ) = some (nI (if gcd' b n (gs.map Prod.fst) = 0 then gs.length + 1 else 0), mh m h σ') ∧ gI σ' 0 = nI (gcd' b n (gs.map Prod.fst)) ∧ frG σ σ' ∧ RT σ' 0 (fun _ => 0) ∧ RW σ' ws ∧ RG σ' (if gcd' b n (gs.map Prod.fst) = 0 then gs ++ [(tk b 0 n, v)] else gs) := by
    intro p q h1 h2 h3
    have h0 : ¬ thr p q = 0 := by cases p <;> cases q <;> first | decide | cases h3
    rw [h2, if_neg h0, if_neg h0]
    refine ⟨_, h1, by rw [gI_sI, if_pos rfl], ⟨fun k a1 a2 _ _ => by rw [gI_sI, if_neg a1, gI_sI, if_neg a2], fun _ => rfl, fun _ _ => rfl, fun _ _ _ _ _ => rfl⟩, RT_clr ht rfl rfl, ⟨hw.1, RN_eq hw.2 rfl rfl⟩, ⟨g1, RN_eq g2 rfl rfl, g3⟩⟩
  unfold f_M_give f_M_give_12 f_M_give_45 f_M_give_49 at fin ⊢
  rw [e_o hm, bs, q_isTapeName hm ht hF, xb_mk] at fin ⊢
  by_cases c1 : tnm b n = true
  · obtain ⟨n1, n2, n3⟩ := tnm_n c1
    rw [if_neg (show ¬ bI (tnm b n) = 0 by rw [c1]; decide), if_pos (show nI 0 = 0 from rfl), Mg31 hm, bs, g1] at fin ⊢
    by_cases c2 : gs.length = 16
    · rw [if_pos (by rw [c2])] at fin ⊢
      refine fin false true (q_give_no hm ht false true rfl) ?_ rfl
      unfold gcd'
      rw [if_pos c1, if_pos (Or.inl (by rw [List.length_map]; exact c2))]
      rfl
    · have hA : ∀ i, i < 320 → xaI (mh m h σ) 0 (m + 23) (nI i) = some (gA σ 33 i) := fun i hi => Ma33 hm hi
      have hB : ∀ i, i < 16 → xaI (mh m h σ) 1 (m + 25) (nI i) = some (gA σ 35 i) := fun i hi => Ma35 hm hi
      have hT := q_toldAt (F := F) hm ht n2 (by omega) g2 hA hB
      rw [List.length_map] at hT
      rw [if_neg (fun q => c2 ((nI_eq (by omega) (by decide)).mp q)), Mr33 hm, bs, Mr35 hm, bs, bs, e_o hm, bs, hT, xb_mk] at fin ⊢
      cases e : idx (tk b 0 n) 0 (gs.map Prod.fst) with
      | some i =>
        have hi : i < 16 := by
          have e1 := idx_lt e
          have e2 := g2.1
          omega
        rw [e] at fin
        rw [if_neg (show ¬ tdA (some i) < 0 from nI_pos (by omega))] at fin ⊢
        refine fin false true (q_give_no hm ht false true rfl) ?_ rfl
        unfold gcd'
        rw [if_pos c1, if_pos (Or.inr (by rw [e]; rfl))]
        rfl
      | none =>
        have hz : gcd' b n (gs.map Prod.fst) = 0 := by
          unfold gcd'
          rw [if_pos c1, if_neg (by rw [e, List.length_map]; intro q; exact q.elim c2 (fun r => nomatch r))]
        rw [hz, if_pos rfl, if_pos rfl, if_pos (show tdA none < 0 from m1_neg)]
        unfold f_M_give_50
        rw [Mg2 hm, bs, ht.1, Mp2 hm, bs, e_o hm, bs, show nI 0 = bI false from rfl, q_throwing hm false false, xb_mk, if_pos (show bI (false || false) = 0 from rfl), show bI false = nI 0 from rfl]
        rw [q_give_78 (F := F) (l := gs.length) hm (by omega) n2 n 0 F _ (gA σ 33) (by omega) (by omega) (show gI (sI (sI σ 2 (nI 0)) 0 (nI (thr false false))) 31 = nI gs.length from g1) ht.2.2.1 (put_0 _ _ _).symm]
        unfold f_M_give_113
        rw [Mr35 hm, bs, Mg31 hm, bs, show gI (sA (sI (sI σ 2 (nI 0)) 0 (nI (thr false false))) 33 (put (gA σ 33) (gA (sI (sI σ 2 (nI 0)) 0 (nI (thr false false))) 1) (20 * gs.length) n)) 31 = nI gs.length from g1, Ms35 hm (by omega), bs, Mr37 hm, bs, Mg31 hm, bs]
        obtain ⟨σ1, hσ1⟩ : ∃ s, s = sA (sA (sI (sI σ 2 (nI 0)) 0 (nI (thr false false))) 33 (put (gA σ 33) (gA σ 1) (20 * gs.length) n)) 35 (upd (gA σ 35) gs.length (nI n)) := ⟨_, rfl⟩
        have hσ1' : mh m h (sA (sA (sI (sI σ 2 (nI 0)) 0 (nI (thr false false))) 33 (put (gA σ 33) (gA (sI (sI σ 2 (nI 0)) 0 (nI (thr false false))) 1) (20 * gs.length) n)) 35 (upd (gA (sA (sI (sI σ 2 (nI 0)) 0 (nI (thr false false))) 33 (put (gA σ 33) (gA (sI (sI σ 2 (nI 0)) 0 (nI (thr false false))) 1) (20 * gs.length) n)) 35) gs.length (nI n))) = mh m h σ1 := by rw [hσ1]; rfl
        have g31 : gI σ1 31 = nI gs.length := by rw [hσ1]; exact g1
        rw [hσ1', show gI (sA (sA (sI (sI σ 2 (nI 0)) 0 (nI (thr false false))) 33 (put (gA σ 33) (gA (sI (sI σ 2 (nI 0)) 0 (nI (thr false false))) 1) (20 * gs.length) n)) 35 (upd (gA (sA (sI (sI σ 2 (nI 0)) 0 (nI (thr false false))) 33 (put (gA σ 33) (gA (sI (sI σ 2 (nI 0)) 0 (nI (thr false false))) 1) (20 * gs.length) n)) 35) gs.length (nI n))) 31 = nI gs.length from g1, Ms37 hm (by omega), bs, Mg31 hm, bs, show gI (sB σ1 37 (vp_updL (gB σ1 37) gs.length v)) 31 = nI gs.length from g31, nI_add, Mp31 hm, bs, Mg31 hm, bs, gI_sI, if_pos rfl]
        have hA33 : gA σ1 33 = put (gA σ 33) (gA σ 1) (20 * gs.length) n := by rw [hσ1]; rfl
        have hA35 : gA σ1 35 = upd (gA σ 35) gs.length (nI n) := by rw [hσ1]; rfl
        have hAo : ∀ k, k ≠ 33 → k ≠ 35 → gA σ1 k = gA σ k := fun k a1 a2 => by rw [hσ1, gA_sA, if_neg a2, gA_sA, if_neg a1]; rfl
        refine ⟨_, rfl, ?_, ⟨?_, ?_, ?_, ?_⟩, ?_, ?_, ?_⟩
        · rw [gI_sI, if_neg (by decide)]
          show gI σ1 0 = nI 0
          rw [hσ1]; rfl
        · intro k a1 a2 a3 a4
          rw [gI_sI, if_neg a3]
          show gI σ1 k = _
          rw [hσ1]
          show gI (sI (sI σ 2 (nI 0)) 0 (nI (thr false false))) k = _
          rw [gI_sI, if_neg a1, gI_sI, if_neg a2]
        · intro k
          show gJ σ1 k = _
          rw [hσ1]; rfl
        · intro k hk
          show gB (sB σ1 37 _) k = _
          rw [gB_sB, if_neg hk, hσ1]; rfl
        · intro k a1 a2 a3 a4
          exact hAo k a1 a3
        · refine RT_clr ht ?_ (hAo 1 (by decide) (by decide))
          rw [gI_sI, if_neg (by decide)]
          show gI σ1 2 = nI 0
          rw [hσ1]; rfl
        · refine ⟨?_, RN_eq hw.2 (hAo 34 (by decide) (by decide)) (hAo 36 (by decide) (by decide))⟩
          rw [gI_sI, if_neg (by decide)]
          show gI σ1 32 = _
          rw [hσ1]; exact hw.1
        · refine ⟨?_, ?_, ?_⟩
          · rw [gI_sI, if_pos rfl, List.length_append]; rfl
          · rw [List.map_append]
            exact RN_add g2 (by rw [List.length_map]; omega) n2 ht.2.2.1 ht.2.2.2 (by rw [List.length_map]; exact hA33) (by rw [List.length_map]; exact hA35)
          · intro i x hx
            show gB (sB σ1 37 (vp_updL (gB σ1 37) gs.length v)) 37 i = x.2
            rw [gB_sB, if_pos rfl]
            by_cases c : i < gs.length
            · rw [List.getElem?_append_left c] at hx
              unfold vp_updL
              rw [if_neg (by omega), hσ1]
              exact g3 i x hx
            · rw [List.getElem?_append_right (by omega)] at hx
              have hi : i - gs.length = 0 := by
                have := (List.getElem?_eq_some_iff.mp hx).1
                simp at this
                omega
              rw [hi] at hx
              have hx2 : x = (tk b 0 n, v) := (Option.some.inj hx).symm
              unfold vp_updL
              rw [if_pos (by omega), hx2]
  · rw [if_pos (show bI (tnm b n) = 0 by rw [Bool.eq_false_iff.mpr c1]; rfl), if_neg (show ¬ nI 1 = 0 by decide)] at fin ⊢
    refine fin true false (q_give_no hm ht true false rfl) ?_ rfl
    unfold gcd'
    rw [if_neg c1]
    rfl
end TLE
