/-! the function is right: what it computes, the machine does -/
theorem px_ix_eq {α : Type} : ∀ (l : List α) (k : Nat), px_ix l k = l[k]?
  | [], k => by rw [List.getElem?_nil]; rfl
  | h :: t, 0 => rfl
  | h :: t, n + 1 => by
    show px_ix t n = _
    rw [px_ix_eq t n, List.getElem?_cons_succ]
theorem px_lset_eq {α : Type} : ∀ (l : List α) (k : Nat) (v : α), px_lset l k v = l.set k v
  | [], _, _ => rfl
  | _ :: _, 0, _ => rfl
  | h :: t, n + 1, v => by
    show h :: px_lset t n v = h :: t.set n v
    rw [px_lset_eq t n v]
theorem px_gd_eq {α : Type} (l : List α) (k : Nat) (d : α) : px_gd l k d = l.getD k d := by
  unfold px_gd
  rw [px_ix_eq, List.getD_eq_getElem?_getD]
  cases l[k]? <;> rfl
theorem px_tg_eq (t : px_T) (k : Nat) : px_tg t k = ((t.getD (k / 256) []).getD (k / 16 % 16) []).getD (k % 16) none := by
  unfold px_tg
  rw [px_gd_eq, px_gd_eq, px_gd_eq]
theorem px_ts_eq (t : px_T) (k : Nat) (e : px_PE) : px_ts t k e = t.set (k / 256) ((t.getD (k / 256) []).set (k / 16 % 16) (((t.getD (k / 256) []).getD (k / 16 % 16) []).set (k % 16) (some e))) := by
  simp only [px_ts, px_lset_eq, px_gd_eq]
theorem px_tin_iff (t : px_T) (k : Nat) : px_tin t k = true ↔ k % 16 < ((t.getD (k / 256) []).getD (k / 16 % 16) []).length := by
  unfold px_tin
  rw [px_ix_eq, px_gd_eq, px_gd_eq]
  constructor
  · intro h
    split at h
    · rename_i x hx
      exact (List.getElem?_eq_some_iff.mp hx).1
    · cases h
  · intro h
    rw [List.getElem?_eq_getElem h]
theorem px_tin_of {t : px_T} {k : Nat} {e : px_PE} (h : px_tg t k = some e) : px_tin t k = true := by
  rw [px_tg_eq] at h
  rw [px_tin_iff]
  rw [List.getD_eq_getElem?_getD (l := ((t.getD (k / 256) []).getD (k / 16 % 16) []))] at h
  cases h2 : ((t.getD (k / 256) []).getD (k / 16 % 16) [])[k % 16]? with
  | none => rw [h2] at h; cases h
  | some x => exact (List.getElem?_eq_some_iff.mp h2).1
theorem px_getD_set {α : Type} (l : List α) (i j : Nat) (x d : α) (h : i < l.length) : (l.set i x).getD j d = if j = i then x else l.getD j d := by
  rw [List.getD_eq_getElem?_getD, List.getElem?_set, List.getD_eq_getElem?_getD]
  by_cases hij : i = j
  · subst hij
    rw [if_pos rfl, if_pos rfl, if_pos h]
    rfl
  · rw [if_neg hij, if_neg (Ne.symm hij)]
theorem px_tg_ts {t : px_T} {a : Nat} {e : px_PE} (h : px_tin t a = true) (k : Nat) : px_tg (px_ts t a e) k = if k = a then some e else px_tg t k := by
  have hC : a % 16 < ((t.getD (a / 256) []).getD (a / 16 % 16) []).length := (px_tin_iff t a).mp h
  have hB : a / 16 % 16 < (t.getD (a / 256) []).length := by
    rcases Nat.lt_or_ge (a / 16 % 16) (t.getD (a / 256) []).length with h1 | h1
    · exact h1
    · exfalso
      rw [List.getD_eq_getElem?_getD (l := t.getD (a / 256) []), List.getElem?_eq_none h1] at hC
      exact absurd hC (Nat.not_lt_zero _)
  have hA : a / 256 < t.length := by
    rcases Nat.lt_or_ge (a / 256) t.length with h1 | h1
    · exact h1
    · exfalso
      rw [List.getD_eq_getElem?_getD (l := t), List.getElem?_eq_none h1] at hB
      exact absurd hB (Nat.not_lt_zero _)
  rw [px_tg_eq (px_ts t a e) k, px_tg_eq t k, px_ts_eq]
  rw [px_getD_set _ _ _ _ _ hA]
  by_cases h1 : k / 256 = a / 256
  · rw [if_pos h1, px_getD_set _ _ _ _ _ hB]
    by_cases h2 : k / 16 % 16 = a / 16 % 16
    · rw [if_pos h2, px_getD_set _ _ _ _ _ hC]
      by_cases h3 : k % 16 = a % 16
      · rw [if_pos h3, if_pos (by omega)]
      · rw [if_neg h3, if_neg (by omega), h1, h2]
    · rw [if_neg h2, if_neg (fun h => h2 (by rw [h])), h1]
  · rw [if_neg h1, if_neg (fun h => h1 (by rw [h]))]
def px_Rz (z : px_Sz) (ph : px_H) : Prop := (∀ k, px_tg z.1 k = ph[k]?) ∧ ph.length = z.2.1 ∧ ph.length + z.2.2.1 ≤ pg_MC ∧ px_sum ph + z.2.2.2 ≤ pg_MS
theorem px_Rz.set {z : px_Sz} {ph : px_H} (h : px_Rz z ph) {a : Nat} {e0 e : px_PE} (h0 : px_tg z.1 a = some e0) (hs : px_sz e = px_sz e0) : px_Rz (px_ts z.1 a e, z.2) (ph.set a e) := by
  have hk : ph[a]? = some e0 := by rw [← h.1]; exact h0
  have hlt : a < ph.length := (List.getElem?_eq_some_iff.mp hk).1
  refine ⟨fun k => ?_, by rw [List.length_set]; exact h.2.1, by rw [List.length_set]; exact h.2.2.1, by rw [px_sum_set hk hs]; exact h.2.2.2⟩
  rw [px_tg_ts (px_tin_of h0), List.getElem?_set]
  by_cases hka : k = a
  · subst hka
    rw [if_pos rfl, if_pos rfl, if_pos hlt]
  · rw [if_neg hka, if_neg (Ne.symm hka)]
    exact h.1 k
theorem px_Rz.push {z : px_Sz} {ph : px_H} (h : px_Rz z ph) {e : px_PE} {n : Nat} (hi : px_tin z.1 z.2.1 = true) (h1 : 0 < z.2.2.1) (h2 : n ≤ z.2.2.2) (hs : px_sz e = n) : px_Rz (px_ts z.1 z.2.1 e, z.2.1 + 1, z.2.2.1 - 1, z.2.2.2 - n) (ph ++ [e]) := by
  obtain ⟨a1, a2, a3, a4⟩ := h
  refine ⟨fun k => ?_, by rw [List.length_append, a2]; rfl, ?_, ?_⟩
  · rw [px_tg_ts hi, ← a2]
    by_cases hk : k = ph.length
    · subst hk
      rw [if_pos rfl, List.getElem?_append_right (Nat.le_refl _), Nat.sub_self]
      rfl
    · rw [if_neg hk, a1]
      by_cases hlt : k < ph.length
      · rw [List.getElem?_append_left hlt]
      · rw [List.getElem?_eq_none (by omega), List.getElem?_eq_none (by simp; omega)]
  · show (ph ++ [e]).length + (z.2.2.1 - 1) ≤ _
    rw [List.length_append]
    show ph.length + 1 + (z.2.2.1 - 1) ≤ _
    omega
  · show px_sum (ph ++ [e]) + (z.2.2.2 - n) ≤ _
    rw [px_sum_push, hs]
    omega
theorem pm_fitB_ok {ty : FieldType} {v : Value} (h : pm_fitB ty v = true) : pm_fit ty v := by
  unfold pm_fitB at h
  split at h <;> first | (cases h; done) | exact trivial | skip
  · simp only [Bool.or_eq_true, beq_iff_eq] at h
    exact h
  · simp only [Bool.and_eq_true, decide_eq_true_eq] at h
    exact h
section PXSO
variable {l : Launch} {g : px_G} {d mi ml pc pc' nx r1 r2 : Nat} {i : Instr} {lv lv' : px_L} {st st' : List Value} {z z' : px_Sz} {ph : px_H} {Q : px_Q} {j : Bool}
theorem px_q1_ok (hcd : pg_cd mi pc = some (i, nx, r1, r2)) (h : px_q1 i pc nx lv st z = some (j, pc', lv', st', z')) (hR : px_Rz z ph) (kk : ∀ ph', px_Rz z' ph' → PW l g d mi pc' lv' st' ph' Q) : PW l g d mi pc lv st ph Q := by
  unfold px_q1 at h
  split at h
  · rename_i len n kd he
    split at h
    · rename_i v hv
      rw [px_ix_eq] at hv
      split at h
      · rename_i hc
        simp only [Bool.and_eq_true, Nat.beq_eq] at hc
        cases h
        exact px_ld hcd he hv hc.1 hc.2 (kk ph hR)
      · cases h
    · cases h
  · cases h
theorem px_q2_ok (hml : ml = pg_ml mi) (hcd : pg_cd mi pc = some (i, nx, r1, r2)) (h : px_q2 ml i pc nx lv st z = some (j, pc', lv', st', z')) (hR : px_Rz z ph) (kk : ∀ ph', px_Rz z' ph' → PW l g d mi pc' lv' st' ph' Q) : PW l g d mi pc lv st ph Q := by
  subst hml
  unfold px_q2 at h
  split at h
  · rename_i len n kd he
    split at h
    · rename_i v st2
      split at h
      · rename_i hc
        simp only [Bool.and_eq_true, Nat.beq_eq] at hc
        cases h
        exact px_st hcd he hc.1 hc.2.1 hc.2.2.1 rfl hc.2.2.2 (kk ph hR)
      · cases h
    · cases h
  · cases h
theorem px_q3_ok (hcd : pg_cd mi pc = some (i, nx, r1, r2)) (h : px_q3 i pc nx lv st z = some (j, pc', lv', st', z')) (hR : px_Rz z ph) (kk : ∀ ph', px_Rz z' ph' → PW l g d mi pc' lv' st' ph' Q) : PW l g d mi pc lv st ph Q := by
  unfold px_q3 at h
  split at h
  · rename_i len st2 he
    split at h
    · rename_i hc
      simp only [Nat.beq_eq] at hc
      cases h
      exact px_alu hcd he hc (kk ph hR)
    · cases h
  · cases h
theorem px_q4_ok (hcd : pg_cd mi pc = some (i, nx, r1, r2)) (h : px_q4 i pc nx r1 lv st z = some (j, pc', lv', st', z')) (hR : px_Rz z ph) (kk : ∀ ph', px_Rz z' ph' → PW l g d mi pc' lv' st' ph' Q) : PW l g d mi pc lv st ph Q := by
  unfold px_q4 at h
  split at h
  · rename_i j2 off st2 he
    split at h
    · rename_i hc
      simp only [Bool.and_eq_true, Nat.beq_eq, decide_eq_true_eq] at hc
      obtain ⟨hp, ht⟩ := hc
      cases h
      replace kk := kk ph hR
      unfold px_br at he
      split at he
      · split at he
        · split at he <;> cases he
          · exact px_ifeq hcd ht hp (fun h => by simpa [h] using kk) (fun h => by simpa [h] using kk)
          · exact px_ifne hcd ht hp (fun h => by simpa [h] using kk) (fun h => by simpa [h] using kk)
          · exact px_iflt hcd ht hp (fun h => by simpa [h] using kk) (fun h => by simpa [h] using kk)
          · exact px_ifge hcd ht hp (fun h => by simpa [h] using kk) (fun h => by simpa [h] using kk)
          · exact px_ifgt hcd ht hp (fun h => by simpa [h] using kk) (fun h => by simpa [h] using kk)
          · exact px_ifle hcd ht hp (fun h => by simpa [h] using kk) (fun h => by simpa [h] using kk)
        · cases he
      · split at he
        · split at he <;> cases he
          · exact px_iceq hcd ht hp (fun h => by simpa [h] using kk) (fun h => by simpa [h] using kk)
          · exact px_icne hcd ht hp (fun h => by simpa [h] using kk) (fun h => by simpa [h] using kk)
          · exact px_iclt hcd ht hp (fun h => by simpa [h] using kk) (fun h => by simpa [h] using kk)
          · exact px_icge hcd ht hp (fun h => by simpa [h] using kk) (fun h => by simpa [h] using kk)
          · exact px_icgt hcd ht hp (fun h => by simpa [h] using kk) (fun h => by simpa [h] using kk)
          · exact px_icle hcd ht hp (fun h => by simpa [h] using kk) (fun h => by simpa [h] using kk)
        · cases he
      · split at he <;> cases he
        · exact px_ifnullN hcd ht hp kk
        · exact px_ifnullR hcd hp kk
        · exact px_ifnullC hcd hp kk
      · split at he <;> cases he
        · exact px_ifnnN hcd hp kk
        · exact px_ifnnR hcd ht hp kk
        · exact px_ifnnC hcd ht hp kk
      · cases he
        exact px_goto hcd ht hp kk
      · cases he
    · cases h
  · cases h
theorem px_q5_ok (hml : ml = pg_ml mi) (hcd : pg_cd mi pc = some (i, nx, r1, r2)) (h : px_q5 ml i pc nx lv st z = some (j, pc', lv', st', z')) (hR : px_Rz z ph) (kk : ∀ ph', px_Rz z' ph' → PW l g d mi pc' lv' st' ph' Q) : PW l g d mi pc lv st ph Q := by
  subst hml
  unfold px_q5 at h
  split at h
  · split at h
    · rename_i x hv
      rw [px_ix_eq] at hv
      split at h
      · rename_i hc
        simp only [Bool.and_eq_true, Nat.beq_eq] at hc
        cases h
        exact px_iinc hcd hv hc.1 hc.2.1 rfl hc.2.2 (kk ph hR)
      · cases h
    · cases h
  · cases h
theorem px_q6_ok (hcd : pg_cd mi pc = some (i, nx, r1, r2)) (h : px_q6 i pc nx r1 r2 lv st z = some (j, pc', lv', st', z')) (hR : px_Rz z ph) (kk : ∀ ph', px_Rz z' ph' → PW l g d mi pc' lv' st' ph' Q) : PW l g d mi pc lv st ph Q := by
  unfold px_q6 at h
  split at h
  · split at h
    · split at h
      · rename_i hg
        split at h
        · rename_i hc
          simp only [Bool.and_eq_true, Nat.beq_eq] at hc
          obtain ⟨rfl, hp⟩ := hc
          split at h
          · rename_i v hv
            rw [px_ix_eq] at hv
            cases h
            exact px_get hcd (by rw [← hR.1]; exact hg) hv hp (kk ph hR)
          · cases h
        · cases h
      · cases h
    · cases h
  · cases h
theorem px_q7_ok (hcd : pg_cd mi pc = some (i, nx, r1, r2)) (h : px_q7 i pc nx r1 r2 lv st z = some (j, pc', lv', st', z')) (hR : px_Rz z ph) (kk : ∀ ph', px_Rz z' ph' → PW l g d mi pc' lv' st' ph' Q) : PW l g d mi pc lv st ph Q := by
  unfold px_q7 at h
  split at h
  · split at h
    · split at h
      · rename_i ci fs hg
        split at h
        · rename_i w hw
          rw [px_ix_eq] at hw
          have h1 : Nat.blt r2 fs.length = true := Nat.ble_eq_true_of_le (List.getElem?_eq_some_iff.mp hw).1
          split at h
          · rename_i hc
            simp only [Bool.and_eq_true, Nat.beq_eq] at hc
            obtain ⟨rfl, h2, hp⟩ := hc
            rw [px_lset_eq] at h
            cases h
            exact px_put hcd (by rw [← hR.1]; exact hg) h1 (pm_fitB_ok h2) hp (kk _ (hR.set hg rfl))
          · cases h
        · cases h
      · cases h
    · cases h
  · cases h
theorem px_ty7 {t : Nat} (h : Nat.blt t 7 = true) : ∃ ty, pg_ty[t]? = some ty := by
  have h1 : t < 7 := Nat.le_of_ble_eq_true h
  exact ⟨_, List.getElem?_eq_getElem (show t < pg_ty.length from h1)⟩
theorem px_q8_ok (hgk : px_gk g) (hcd : pg_cd mi pc = some (i, nx, r1, r2)) (h : px_q8 i pc nx lv st z = some (j, pc', lv', st', z')) (hR : px_Rz z ph) (kk : ∀ ph', px_Rz z' ph' → PW l g d mi pc' lv' st' ph' Q) : PW l g d mi pc lv st ph Q := by
  unfold px_q8 at h
  split at h
  · split at h
    · split at h
      · rename_i hg
        split at h
        · rename_i hc
          simp only [Bool.and_eq_true, Nat.beq_eq] at hc
          obtain ⟨ty, hty⟩ := px_ty7 hc.1
          cases h
          exact px_alen hcd (by rw [← hR.1]; exact hg) hty hc.2 (kk ph hR)
        · cases h
      · cases h
    · rename_i a st2
      split at h
      · rename_i hc
        simp only [Bool.and_eq_true, Nat.beq_eq] at hc
        cases h
        have h1 : 0 < a := Nat.le_of_ble_eq_true hc.1
        have h2 : a < pg_nc := Nat.le_of_ble_eq_true hc.2.1
        have h3 := hgk (a - 1) (by omega)
        rw [show a - 1 + 1 = a by omega] at h3
        exact px_clen hcd h2 hc.2.2 (by rw [h3]; exact kk ph hR)
      · cases h
    · cases h
  · cases h
theorem px_inB_ok {x : Int32} {n : Nat} (h : px_inB x n = true) : vp_in x n := by
  unfold px_inB at h
  simp only [Bool.not_eq_true', Bool.or_eq_false_iff, decide_eq_false_iff_not] at h
  rintro (h1 | h1)
  · exact h.1 h1
  · have := h.2
    rw [Nat.ble_eq_true_of_le h1] at this
    cases this
theorem px_q9_ok (hgk : px_gk g) (hcd : pg_cd mi pc = some (i, nx, r1, r2)) (h : px_q9 i pc nx lv st z = some (j, pc', lv', st', z')) (hR : px_Rz z ph) (kk : ∀ ph', px_Rz z' ph' → PW l g d mi pc' lv' st' ph' Q) : PW l g d mi pc lv st ph Q := by
  unfold px_q9 at h
  split at h
  · split at h
    · rename_i ix a st2
      split at h
      · rename_i v hv
        split at h
        · rename_i hc
          simp only [Nat.beq_eq] at hc
          cases h
          unfold px_ald at hv
          split at hv
          · rename_i t n f hg
            rw [hR.1] at hg
            split at hv
            · rename_i hin
              have hin := px_inB_ok hin
              split at hv
              · split at hv
                · rename_i ht
                  simp only [Nat.beq_eq] at ht
                  subst ht
                  cases hv
                  exact px_iald hcd hg rfl hin hc (kk ph hR)
                · cases hv
              · split at hv
                · rename_i ht
                  simp only [Bool.or_eq_true, Nat.beq_eq] at ht
                  cases hv
                  rcases ht with rfl | rfl
                  · exact px_bald hcd hg rfl hin hc (kk ph hR)
                  · exact px_zald hcd hg rfl hin hc (kk ph hR)
                · cases hv
              · split at hv
                · rename_i ht
                  simp only [Nat.beq_eq] at ht
                  subst ht
                  cases hv
                  exact px_lald hcd hg rfl hin hc (kk ph hR)
                · cases hv
              · split at hv
                · rename_i ht
                  simp only [Bool.and_eq_true] at ht
                  have h1 : 4 ≤ t := Nat.le_of_ble_eq_true ht.1
                  have h2 : t < 7 := Nat.le_of_ble_eq_true ht.2
                  cases hv
                  have h3 : t = 4 ∨ t = 5 ∨ t = 6 := by omega
                  rcases h3 with rfl | rfl | rfl <;> exact px_aald hcd hg rfl hin hc (kk ph hR)
                · cases hv
              · cases hv
            · cases hv
          · cases hv
        · cases h
      · cases h
    · rename_i ix a st2
      split at h
      · rename_i v hv
        split at h
        · rename_i hc
          simp only [Nat.beq_eq] at hc
          cases h
          unfold px_cld at hv
          split at hv
          · rename_i hb
            simp only [Bool.and_eq_true] at hb
            have h1 : 0 < a := Nat.le_of_ble_eq_true hb.1
            have h2 : a < pg_nc := Nat.le_of_ble_eq_true hb.2
            have h3 := hgk (a - 1) (by omega)
            rw [show a - 1 + 1 = a by omega] at h3
            split at hv
            · rename_i hin
              have hin := px_inB_ok hin
              rw [← h3] at hin hv
              split at hv
              · cases hv
                exact px_cild hcd h2 (by assumption) hin hc (kk ph hR)
              · cases hv
                exact px_cbld hcd h2 (by assumption) hin hc (kk ph hR)
              · cases hv
            · cases hv
          · cases hv
        · cases h
      · cases h
    · cases h
  · cases h
theorem px_q10_ok (hcd : pg_cd mi pc = some (i, nx, r1, r2)) (h : px_q10 i pc nx lv st z = some (j, pc', lv', st', z')) (hR : px_Rz z ph) (kk : ∀ ph', px_Rz z' ph' → PW l g d mi pc' lv' st' ph' Q) : PW l g d mi pc lv st ph Q := by
  unfold px_q10 at h
  split at h
  · split at h
    · rename_i v ix a st2
      split at h
      · rename_i e hv
        split at h
        · rename_i hc
          simp only [Nat.beq_eq] at hc
          cases h
          unfold px_ast at hv
          split at hv
          · rename_i t n f hg0
            have hg := hg0
            rw [hR.1] at hg
            split at hv
            · rename_i hin
              have hin := px_inB_ok hin
              split at hv
              · split at hv
                · rename_i ht
                  simp only [Nat.beq_eq] at ht
                  subst ht
                  cases hv
                  exact px_iast hcd hg rfl hin hc (kk _ (hR.set hg0 rfl))
                · cases hv
              · split at hv
                · rename_i ht
                  simp only [Nat.beq_eq] at ht
                  subst ht
                  cases hv
                  exact px_bast hcd hg rfl hin hc (kk _ (hR.set hg0 rfl))
                · split at hv
                  · rename_i ht
                    simp only [Nat.beq_eq] at ht
                    subst ht
                    cases hv
                    exact px_zast hcd hg rfl hin hc (kk _ (hR.set hg0 rfl))
                  · cases hv
              · split at hv
                · rename_i ht
                  simp only [Nat.beq_eq] at ht
                  subst ht
                  cases hv
                  exact px_last hcd hg rfl hin hc (kk _ (hR.set hg0 rfl))
                · cases hv
              · split at hv
                · rename_i ht
                  simp only [Bool.and_eq_true] at ht
                  have h1 : 4 ≤ t := Nat.le_of_ble_eq_true ht.1
                  have h2 : t < 7 := Nat.le_of_ble_eq_true ht.2
                  cases hv
                  have h3 : t = 4 ∨ t = 5 ∨ t = 6 := by omega
                  rcases h3 with rfl | rfl | rfl <;> exact px_aastN hcd hg rfl hin hc (kk _ (hR.set hg0 rfl))
                · cases hv
              · split at hv
                · rename_i ci fs hw
                  split at hv
                  · rename_i ht
                    simp only [Bool.and_eq_true, decide_eq_true_eq] at ht
                    have h1 : ci < 16 := Nat.le_of_ble_eq_true ht.1
                    rw [hR.1] at hw
                    cases hv
                    exact px_aast hcd hg ht.2.2 hw (pg_clb h1) hin hc (kk _ (hR.set hg0 rfl))
                  · cases hv
                · cases hv
              · cases hv
            · cases hv
          · cases hv
        · cases h
      · cases h
    · cases h
  · cases h
theorem px_q11_ok (hcd : pg_cd mi pc = some (i, nx, r1, r2)) (h : px_q11 i pc nx r1 lv st z = some (j, pc', lv', st', z')) (hR : px_Rz z ph) (kk : ∀ ph', px_Rz z' ph' → PW l g d mi pc' lv' st' ph' Q) : PW l g d mi pc lv st ph Q := by
  unfold px_q11 at h
  split at h
  · split at h
    · rename_i hc
      simp only [Bool.and_eq_true, Nat.beq_eq] at hc
      obtain ⟨c1, c2, c3, c4, hp⟩ := hc
      have h1 : r1 < 13 := Nat.le_of_ble_eq_true c1
      have h2 : 0 < z.2.2.1 := Nat.le_of_ble_eq_true c2
      have h4 : pg_in r1 ≤ z.2.2.2 := Nat.le_of_ble_eq_true c4
      cases h
      have hr := hR
      obtain ⟨a1, a2, a3, a4⟩ := hR
      refine px_new hcd (pg_clb (show r1 < 16 by omega)) (by omega) (by omega) hp ?_
      rw [a2]
      exact kk _ (hr.push c3 h2 h4 rfl)
    · cases h
  · cases h
theorem px_roomB_ok {n : Int32} (h : px_roomB n z = true) (hR : px_Rz z ph) : ¬ n < 0 ∧ n.toNatClampNeg ≤ 1000000 ∧ px_tin z.1 z.2.1 = true ∧ 0 < z.2.2.1 ∧ n.toNatClampNeg ≤ z.2.2.2 ∧ ph.length < pg_MC ∧ px_sum ph + n.toNatClampNeg ≤ pg_MS := by
  simp only [px_roomB, Bool.and_eq_true, decide_eq_true_eq] at h
  obtain ⟨c1, c2, c3, c4, c5⟩ := h
  have h2 : n.toNatClampNeg ≤ 1000000 := Nat.le_of_ble_eq_true c2
  have h3 : 0 < z.2.2.1 := Nat.le_of_ble_eq_true c3
  have h5 : n.toNatClampNeg ≤ z.2.2.2 := Nat.le_of_ble_eq_true c5
  obtain ⟨a1, a2, a3, a4⟩ := hR
  exact ⟨c1, h2, c4, h3, h5, by omega, by omega⟩
theorem px_q12_ok (hcd : pg_cd mi pc = some (i, nx, r1, r2)) (h : px_q12 i pc nx r1 lv st z = some (j, pc', lv', st', z')) (hR : px_Rz z ph) (kk : ∀ ph', px_Rz z' ph' → PW l g d mi pc' lv' st' ph' Q) : PW l g d mi pc lv st ph Q := by
  have hr := hR
  have a2 := hR.2.1
  unfold px_q12 at h
  split at h
  · split at h
    · rename_i n st2
      split at h
      · rename_i f hf
        split at h
        · rename_i hc
          simp only [Bool.and_eq_true, Nat.beq_eq] at hc
          obtain ⟨c1, c2, c3, c4, c5, c6, c7⟩ := px_roomB_ok hc.1 hR
          cases h
          unfold px_nat at hf
          split at hf <;> cases hf
          · exact px_newI hcd rfl rfl (Or.inr (Or.inl rfl)) c1 rfl c2 c6 c7 hc.2 (by rw [a2]; exact kk _ (hr.push c3 c4 c5 rfl))
          · exact px_newI hcd rfl rfl (Or.inl rfl) c1 rfl c2 c6 c7 hc.2 (by rw [a2]; exact kk _ (hr.push c3 c4 c5 rfl))
          · exact px_newL hcd rfl c1 rfl c2 c6 c7 hc.2 (by rw [a2]; exact kk _ (hr.push c3 c4 c5 rfl))
          · exact px_newI hcd rfl rfl (Or.inr (Or.inr rfl)) c1 rfl c2 c6 c7 hc.2 (by rw [a2]; exact kk _ (hr.push c3 c4 c5 rfl))
        · cases h
      · cases h
    · cases h
  · split at h
    · rename_i n st2
      split at h
      · rename_i hc
        simp only [Bool.and_eq_true, Nat.beq_eq] at hc
        obtain ⟨c1, c2, c3, c4, c5, c6, c7⟩ := px_roomB_ok hc.1 hR
        have h1 : 4 ≤ r1 := Nat.le_of_ble_eq_true hc.2.1
        have h2 : r1 < 7 := Nat.le_of_ble_eq_true hc.2.2.1
        have h3 : r1 = 4 ∨ r1 = 5 ∨ r1 = 6 := by omega
        cases h
        rcases h3 with rfl | rfl | rfl <;> exact px_anew hcd rfl c1 rfl c2 c6 c7 hc.2.2.2 (by rw [a2]; exact kk _ (hr.push c3 c4 c5 rfl))
      · cases h
    · cases h
  · cases h
theorem px_q13_ok (hcd : pg_cd mi pc = some (i, nx, r1, r2)) (h : px_q13 mi i pc nx r1 r2 lv st z = some (j, pc', lv', st', z')) (hR : px_Rz z ph) (kk : ∀ ph', px_Rz z' ph' → PW l g d mi pc' lv' st' ph' Q) : PW l g d mi pc lv st ph Q := by
  unfold px_q13 at h
  split at h
  · split at h
    · rename_i hc
      simp only [Nat.beq_eq] at hc
      cases h
      exact px_gets hcd hc (kk ph hR)
    · cases h
  · split at h
    · split at h
      · rename_i q hq
        split at h
        · rename_i hc
          simp only [Bool.and_eq_true, Nat.beq_eq, decide_eq_true_eq] at hc
          cases h
          exact px_ldcs hcd hq hc.2.1 hc.2.2 hc.1 (kk ph hR)
        · cases h
      · cases h
    · rename_i hr2
      split at h
      · rename_i hc
        simp only [Nat.beq_eq] at hc
        split at h
        · rename_i v hv
          cases h
          exact px_ldc hcd (fun h9 => hr2 (by rw [h9]; rfl)) hv hc (kk ph hR)
        · cases h
      · cases h
  · split at h
    · rename_i hc
      simp only [Bool.and_eq_true, Nat.beq_eq, Bool.not_eq_true'] at hc
      split at h
      · rename_i v hv
        cases h
        exact px_ldcw hcd (fun h9 => by rw [h9] at hc; exact absurd hc.2 (by decide)) hv hc.1 (kk ph hR)
      · cases h
    · cases h
  · split at h
    · rename_i hc
      simp only [Nat.beq_eq] at hc
      split at h
      · rename_i v hv
        cases h
        exact px_ldc2 hcd hv hc (kk ph hR)
      · cases h
    · cases h
  · cases h
theorem px_q14_ok (hcd : pg_cd mi pc = some (i, nx, r1, r2)) (h : px_q14 i pc nx lv st z = some (j, pc', lv', st', z')) (hR : px_Rz z ph) (kk : ∀ ph', px_Rz z' ph' → PW l g d mi pc' lv' st' ph' Q) : PW l g d mi pc lv st ph Q := by
  unfold px_q14 at h
  split at h
  · split at h
    · split at h
      · rename_i hc
        simp only [Bool.and_eq_true, Nat.beq_eq, decide_eq_true_eq] at hc
        cases h
        exact px_idiv hcd hc.1 hc.2 (kk ph hR)
      · cases h
    · cases h
  · split at h
    · split at h
      · rename_i hc
        simp only [Bool.and_eq_true, Nat.beq_eq, decide_eq_true_eq] at hc
        cases h
        exact px_irem hcd hc.1 hc.2 (kk ph hR)
      · cases h
    · cases h
  · split at h
    · split at h
      · rename_i hc
        simp only [Bool.and_eq_true, Nat.beq_eq, decide_eq_true_eq] at hc
        cases h
        exact px_ldiv hcd hc.1 hc.2 (kk ph hR)
      · cases h
    · cases h
  · split at h
    · split at h
      · rename_i hc
        simp only [Bool.and_eq_true, Nat.beq_eq, decide_eq_true_eq] at hc
        cases h
        exact px_lrem hcd hc.1 hc.2 (kk ph hR)
      · cases h
    · cases h
  · cases h
theorem px_q15_ok (hcd : pg_cd mi pc = some (i, nx, r1, r2)) (h : px_q15 i pc nx lv st z = some (j, pc', lv', st', z')) (hR : px_Rz z ph) (kk : ∀ ph', px_Rz z' ph' → PW l g d mi pc' lv' st' ph' Q) : PW l g d mi pc lv st ph Q := by
  unfold px_q15 at h
  split at h
  · rename_i df lo hi offs
    split at h
    · rename_i x r
      split at h
      · rename_i hb
        have e : nx = pc + (nx - pc) := by have := Nat.le_of_ble_eq_true hb; omega
        rw [e] at hcd
        split at h
        · rename_i hc
          split at h
          · rename_i h0
            cases h
            simp only [Bool.or_eq_true, decide_eq_true_eq] at hc h0
            exact px_tsOut hcd hc (by omega) (kk ph hR)
          · cases h
        · rename_i hc
          split at h
          · rename_i off ho
            split at h
            · rename_i h0
              cases h
              simp only [Bool.or_eq_true, decide_eq_true_eq, not_or] at hc h0
              exact px_tsIn hcd hc.1 hc.2 ho (by omega) (kk ph hR)
            · cases h
          · cases h
      · cases h
    · cases h
  · cases h
theorem px_one_ok (hgk : px_gk g) (hml : ml = pg_ml mi) (hcd : pg_cd mi pc = some (i, nx, r1, r2)) (h : px_one mi ml i pc nx r1 r2 lv st z = some (j, pc', lv', st', z')) (hR : px_Rz z ph) (kk : ∀ ph', px_Rz z' ph' → PW l g d mi pc' lv' st' ph' Q) : PW l g d mi pc lv st ph Q := by
  unfold px_one at h
  split at h
  · split at h
    · split at h
      · cases h
      · split at h
        · exact px_q1_ok hcd h hR kk
        · cases h
    · split at h
      · exact px_q2_ok hml hcd h hR kk
      · exact px_q3_ok hcd h hR kk
  · split at h
    · split at h
      · exact px_q6_ok hcd h hR kk
      · split at h
        · exact px_q4_ok hcd h hR kk
        · exact px_q5_ok hml hcd h hR kk
    · split at h
      · split at h
        · split at h
          · exact px_q7_ok hcd h hR kk
          · exact px_q8_ok hgk hcd h hR kk
        · split at h
          · exact px_q9_ok hgk hcd h hR kk
          · exact px_q10_ok hcd h hR kk
      · split at h
        · split at h
          · exact px_q11_ok hcd h hR kk
          · exact px_q12_ok hcd h hR kk
        · split at h
          · exact px_q13_ok hcd h hR kk
          · split at h
            · exact px_q14_ok hcd h hR kk
            · exact px_q15_ok hcd h hR kk
end PXSO
