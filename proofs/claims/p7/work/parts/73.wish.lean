/-! wish, forget of the reference -/
section TLW
variable {F m : Nat} {h : px_H} {σ : px_S} {n : Nat} {b : Nat → Nat}
theorem q_wish {gs : List (List Nat × Int64)} {ws : List (List Nat)} (hm : m ≤ h.length) (hF : 8192 < F) (ht : RT σ n b) (hg : RG σ gs) (hw : RW σ ws) : ∃ σ', f_M_wish F m (mh m h σ) = some (nI (if gcd' b n ws = 0 then ws.length + 1 else 0), mh m h σ') ∧ gI σ' 0 = nI (gcd' b n ws) ∧ frG σ σ' ∧ RT σ' 0 (fun _ => 0) ∧ RG σ' gs ∧ RW σ' (if gcd' b n ws = 0 then ws ++ [tk b 0 n] else ws) := by
  obtain ⟨g1, g2⟩ := hw
  have hgl : ws.length ≤ 16 := g2.1
  have fin : ∀ (p q : Bool), f_M_wish F m (mh m h σ) = some (nI 0, mh m h (sI (sI σ 2 (nI 0)) 0 (nI (thr p q)))) → gcd' b n ws = thr p q → (p || q) = true → ∃ σ', f_M_wish F m (mh m h σ) = some (nI (if gcd' b n ws = 0 then ws.length + 1 else 0), mh m h σ') ∧ gI σ' 0 = nI (gcd' b n ws) ∧ frG σ σ' ∧ RT σ' 0 (fun _ => 0) ∧ RG σ' gs ∧ RW σ' (if gcd' b n ws = 0 then ws ++ [tk b 0 n] else ws) := by
    intro p q h1 h2 h3
    have h0 : ¬ thr p q = 0 := by cases p <;> cases q <;> first | decide | cases h3
    rw [h2, if_neg h0, if_neg h0]
    refine ⟨_, h1, by rw [gI_sI, if_pos rfl], ⟨fun k a1 a2 _ _ => by rw [gI_sI, if_neg a1, gI_sI, if_neg a2], fun _ => rfl, fun _ _ => rfl, fun _ _ _ _ _ => rfl⟩, RT_clr ht rfl rfl, ⟨hg.1, RN_eq hg.2.1 rfl rfl, hg.2.2⟩, ⟨g1, RN_eq g2 rfl rfl⟩⟩
  unfold f_M_wish f_M_wish_12 f_M_wish_45 f_M_wish_49 at fin ⊢
  rw [e_o hm, bs, q_isTapeName hm ht hF, xb_mk] at fin ⊢
  by_cases c1 : tnm b n = true
  · obtain ⟨n1, n2, n3⟩ := tnm_n c1
    rw [if_neg (show ¬ bI (tnm b n) = 0 by rw [c1]; decide), if_pos (show nI 0 = 0 from rfl), Mg32 hm, bs, g1] at fin ⊢
    by_cases c2 : ws.length = 16
    · rw [if_pos (by rw [c2])] at fin ⊢
      refine fin false true (q_wish_no hm ht false true rfl) ?_ rfl
      unfold gcd'
      rw [if_pos c1, if_pos (Or.inl c2)]
      rfl
    · have hA : ∀ i, i < 320 → xaI (mh m h σ) 0 (m + 24) (nI i) = some (gA σ 34 i) := fun i hi => Ma34 hm hi
      have hB : ∀ i, i < 16 → xaI (mh m h σ) 1 (m + 26) (nI i) = some (gA σ 36 i) := fun i hi => Ma36 hm hi
      have hT := q_toldAt (F := F) hm ht n2 (by omega) g2 hA hB
      rw [if_neg (fun q => c2 ((nI_eq (by omega) (by decide)).mp q)), Mr34 hm, bs, Mr36 hm, bs, bs, e_o hm, bs, hT, xb_mk] at fin ⊢
      cases e : idx (tk b 0 n) 0 ws with
      | some i =>
        have hi : i < 16 := by
          have e1 := idx_lt e
          have e2 := g2.1
          omega
        rw [e] at fin
        rw [if_neg (show ¬ tdA (some i) < 0 from nI_pos (by omega))] at fin ⊢
        refine fin false true (q_wish_no hm ht false true rfl) ?_ rfl
        unfold gcd'
        rw [if_pos c1, if_pos (Or.inr (by rw [e]; rfl))]
        rfl
      | none =>
        have hz : gcd' b n ws = 0 := by
          unfold gcd'
          rw [if_pos c1, if_neg (by rw [e]; intro q; exact q.elim c2 (fun r => nomatch r))]
        rw [hz, if_pos rfl, if_pos rfl, if_pos (show tdA none < 0 from m1_neg)]
        unfold f_M_wish_50
        rw [Mg2 hm, bs, ht.1, Mp2 hm, bs, e_o hm, bs, show nI 0 = bI false from rfl, q_throwing hm false false, xb_mk, if_pos (show bI (false || false) = 0 from rfl), show bI false = nI 0 from rfl]
        rw [q_wish_75 (F := F) (l := ws.length) hm (by omega) n2 n 0 F _ (gA σ 34) (by omega) (by omega) (show gI (sI (sI σ 2 (nI 0)) 0 (nI (thr false false))) 32 = nI ws.length from g1) ht.2.2.1 (put_0 _ _ _).symm]
        unfold f_M_wish_109
        rw [Mr36 hm, bs, Mg32 hm, bs, show gI (sA (sI (sI σ 2 (nI 0)) 0 (nI (thr false false))) 34 (put (gA σ 34) (gA (sI (sI σ 2 (nI 0)) 0 (nI (thr false false))) 1) (20 * ws.length) n)) 32 = nI ws.length from g1, Ms36 hm (by omega), bs, Mg32 hm, bs]
        obtain ⟨σ1, hσ1⟩ : ∃ s, s = sA (sA (sI (sI σ 2 (nI 0)) 0 (nI (thr false false))) 34 (put (gA σ 34) (gA σ 1) (20 * ws.length) n)) 36 (upd (gA σ 36) ws.length (nI n)) := ⟨_, rfl⟩
        have hσ1' : mh m h (sA (sA (sI (sI σ 2 (nI 0)) 0 (nI (thr false false))) 34 (put (gA σ 34) (gA (sI (sI σ 2 (nI 0)) 0 (nI (thr false false))) 1) (20 * ws.length) n)) 36 (upd (gA (sA (sI (sI σ 2 (nI 0)) 0 (nI (thr false false))) 34 (put (gA σ 34) (gA (sI (sI σ 2 (nI 0)) 0 (nI (thr false false))) 1) (20 * ws.length) n)) 36) ws.length (nI n))) = mh m h σ1 := by rw [hσ1]; rfl
        have g31 : gI σ1 32 = nI ws.length := by rw [hσ1]; exact g1
        rw [hσ1', show gI (sA (sA (sI (sI σ 2 (nI 0)) 0 (nI (thr false false))) 34 (put (gA σ 34) (gA (sI (sI σ 2 (nI 0)) 0 (nI (thr false false))) 1) (20 * ws.length) n)) 36 (upd (gA (sA (sI (sI σ 2 (nI 0)) 0 (nI (thr false false))) 34 (put (gA σ 34) (gA (sI (sI σ 2 (nI 0)) 0 (nI (thr false false))) 1) (20 * ws.length) n)) 36) ws.length (nI n))) 32 = nI ws.length from g1, nI_add, Mp32 hm, bs, Mg32 hm, bs, gI_sI, if_pos rfl]
        have hA33 : gA σ1 34 = put (gA σ 34) (gA σ 1) (20 * ws.length) n := by rw [hσ1]; rfl
        have hA35 : gA σ1 36 = upd (gA σ 36) ws.length (nI n) := by rw [hσ1]; rfl
        have hAo : ∀ k, k ≠ 34 → k ≠ 36 → gA σ1 k = gA σ k := fun k a1 a2 => by rw [hσ1, gA_sA, if_neg a2, gA_sA, if_neg a1]; rfl
        have hBo : ∀ k, gB σ1 k = gB σ k := fun k => by rw [hσ1]; rfl
        refine ⟨_, rfl, ?_, ⟨?_, ?_, ?_, ?_⟩, ?_, ?_, ?_⟩
        · rw [gI_sI, if_neg (by decide), hσ1]; rfl
        · intro k a1 a2 a3 a4
          rw [gI_sI, if_neg a4, hσ1]
          show gI (sI (sI σ 2 (nI 0)) 0 (nI (thr false false))) k = _
          rw [gI_sI, if_neg a1, gI_sI, if_neg a2]
        · intro k
          show gJ σ1 k = _
          rw [hσ1]; rfl
        · intro k _; exact hBo k
        · intro k a1 a2 a3 a4
          exact hAo k a2 a4
        · refine RT_clr ht ?_ (hAo 1 (by decide) (by decide))
          rw [gI_sI, if_neg (by decide), hσ1]; rfl
        · refine ⟨?_, RN_eq hg.2.1 (hAo 33 (by decide) (by decide)) (hAo 35 (by decide) (by decide)), ?_⟩
          · rw [gI_sI, if_neg (by decide), hσ1]; exact hg.1
          · intro i x hx
            show gB σ1 37 i = _
            rw [hBo]; exact hg.2.2 i x hx
        · refine ⟨?_, ?_⟩
          · rw [gI_sI, if_pos rfl, List.length_append]; rfl
          · exact RN_add g2 (by omega) n2 ht.2.2.1 ht.2.2.2 hA33 hA35
  · rw [if_pos (show bI (tnm b n) = 0 by rw [Bool.eq_false_iff.mpr c1]; rfl), if_neg (show ¬ nI 1 = 0 by decide)] at fin ⊢
    refine fin true false (q_wish_no hm ht true false rfl) ?_ rfl
    unfold gcd'
    rw [if_neg c1]
    rfl
theorem RN_nil {ka kb : Nat} : RN σ ka kb [] := ⟨Nat.zero_le _, fun i w hw => by rw [List.getElem?_nil] at hw; cases hw⟩
theorem q_forget (hm : m ≤ h.length) : ∃ σ', f_M_forget F m (mh m h σ) = some ((), mh m h σ') ∧ gI σ' 0 = nI 0 ∧ RG σ' [] ∧ RW σ' [] ∧ (∀ k, k ≠ 0 → k ≠ 31 → k ≠ 32 → gI σ' k = gI σ k) ∧ (∀ k, gJ σ' k = gJ σ k) ∧ (∀ k, gA σ' k = gA σ k) ∧ (∀ k, gB σ' k = gB σ k) := by
  unfold f_M_forget
  rw [Mp0 hm, bs, Mp31 hm, bs, Mp32 hm, bs]
  refine ⟨_, rfl, rfl, ⟨rfl, RN_nil, fun i x hx => by rw [List.getElem?_nil] at hx; cases hx⟩, ⟨rfl, RN_nil⟩, fun k a1 a2 a3 => by rw [gI_sI, if_neg a3, gI_sI, if_neg a2, gI_sI, if_neg a1], fun _ => rfl, fun _ => rfl, fun _ => rfl⟩
end TLW
