/-! findTemplate of the reference -/
abbrev px_FT : Type := Bool × Nat × Nat × Nat
def ft1 (tb : Nat → Nat → Nat) (ad : Nat → Nat) (s : px_FT) (x : Nat) : px_FT := if 4 ≤ oG (tb (x / 24)) (x % 24) then (true, ad x + zS tb x, if alS tb x ≤ s.2.2.1 then s.2.2.1 else alS tb x, if s.1 = true then s.2.2.2 else ad x) else s
def RTm (σ : px_S) (s : px_FT) : Prop := gJ σ 86 = lN s.2.2.1 ∧ (s.1 = true → gJ σ 83 = lN s.2.2.2 ∧ gJ σ 85 = lN s.2.1 - lN s.2.2.2)
/-- the threads' point -/
def tpN (bg2 : Nat) (s : px_FT) : Nat := if s.1 = true then upN s.2.1 s.2.2.1 else bg2
theorem l_back (a b : Int64) : b + (a - b) = a := by
  apply Int64.toBitVec_inj.mp
  rw [Int64.toBitVec_add, Int64.toBitVec_sub, BitVec.add_comm, BitVec.sub_add_cancel]
section MFT
variable {F m T : Nat} {h : px_H} {tb : Nat → Nat → Nat} {tO tn tq : Nat → Nat} {ll : List Nat} {ad : Nat → Nat}
theorem q_fT_19 (hm : m ≤ h.length) (hF : 24 < F) (hl : llP T tb ll) (hZ : ∀ x, x ∈ ll → zS tb x ≤ 16384 ∧ alS tb x ≤ 4096) : ∀ (c P f : Nat) (σ : px_S) (s : px_FT), P + c = ll.length → c < f → (∀ t, t < T → OB σ t (tO t) (tn t) (tb t)) → RLa σ tq tb ll → RAd σ ll (fun x => 4 ≤ oG (tb (x / 24)) (x % 24)) ad → 1 ≤ s.2.2.1 → s.2.2.1 ≤ 4096 → RTm σ s → ∃ σ', f_M_findTemplate_19 F f m (bI s.1) (nI P) (mh m h σ) = f_M_findTemplate_161 F m (bI ((ll.drop P).foldl (ft1 tb ad) s).1) (mh m h σ') ∧ RTm σ' ((ll.drop P).foldl (ft1 tb ad) s) ∧ 1 ≤ ((ll.drop P).foldl (ft1 tb ad) s).2.2.1 ∧ ((ll.drop P).foldl (ft1 tb ad) s).2.2.1 ≤ 4096 ∧ FR [] [83, 84, 85, 86] [] [] σ σ' := by
  have hl1 := hl.1
  intro c
  induction c with
  | zero =>
    intro P f σ s hP hf hB hL hA h1 h2 hT
    obtain ⟨f, rfl⟩ : ∃ x, f = x + 1 := ⟨f - 1, by omega⟩
    unfold f_M_findTemplate_19
    rw [Mg50 hm, bs, hL.1, if_pos (nI_le (by omega) (by omega)), List.drop_eq_nil_of_le (by omega)]
    exact ⟨σ, rfl, hT, h1, h2, FR_refl σ⟩
  | succ c ih =>
    intro P f σ s hP hf hB hL hA h1 h2 hT
    obtain ⟨f, rfl⟩ : ∃ x, f = x + 1 := ⟨f - 1, by omega⟩
    have hPl : P < ll.length := by omega
    have hx := List.getElem?_eq_getElem hPl
    rw [List.drop_eq_getElem_cons hPl, List.foldl_cons]
    have hxm := List.getElem_mem hPl
    have hx2 := hl.2 _ hxm
    have hxz := hZ _ hxm
    generalize ll[P] = x at *
    obtain ⟨r1, r2, r3, r4, r5, r6⟩ := hL.2 P x hx
    have hb := hB _ hx2.1
    have hG : oG (tb (x / 24)) (x % 24) ≤ 5 := by unfold oG; repeat (first | omega | split)
    unfold f_M_findTemplate_19 f_M_findTemplate_155
    rw [Mg50 hm, bs, hL.1, if_neg (nI_ge (by omega) (by omega)), Mr55 hm, bs, Ma55 hm (by omega), bs, r5, nI_add]
    by_cases c1 : 4 ≤ oG (tb (x / 24)) (x % 24)
    · obtain ⟨a57, a58⟩ := hA P x hx c1
      have e1 : ft1 tb ad s x = (true, ad x + zS tb x, if alS tb x ≤ s.2.2.1 then s.2.2.1 else alS tb x, if s.1 = true then s.2.2.2 else ad x) := by unfold ft1; rw [if_pos c1]
      rw [if_pos (nI_le c1 (by omega))]
      generalize hbe : (if s.1 = true then s.2.2.2 else ad x) = be at *
      have e58 : (if bI s.1 = 0 then (xgR (mh m h σ) 12 57 m).bind fun t4 => (xaJ (mh m h σ) 2 t4 (nI P)).bind fun t5 => f_M_findTemplate_58 F (f_M_findTemplate_19 F f) m (nI P) m t5 (mh m h σ) else (xgJ (mh m h σ) 12 83 m).bind fun t6 => f_M_findTemplate_58 F (f_M_findTemplate_19 F f) m (nI P) m t6 (mh m h σ)) = f_M_findTemplate_58 F (f_M_findTemplate_19 F f) m (nI P) m (lN be) (mh m h σ) := by
        cases es : s.1 with
        | false =>
          rw [es, if_neg (by decide)] at hbe
          rw [if_pos (show bI false = 0 from rfl), Mr57 hm, bs, Ma57 hm (by omega), bs, a57, hbe]
        | true =>
          rw [es, if_pos rfl] at hbe
          rw [if_neg (show ¬ bI true = 0 by decide), Mg83 hm, bs, (hT.2 es).1, hbe]
      rw [e58]
      have f1 := FR_J σ 83 (lN be)
      have q57 : gB (sJ σ 83 (lN be)) 57 P = lN (ad x) := a57
      have q56 : gA (sJ σ 83 (lN be)) 56 P = nI (oZ (tb (x / 24)) (x % 24)) := r6
      have q55 : gA (sJ σ 83 (lN be)) 55 P = nI (oG (tb (x / 24)) (x % 24)) := r5
      have q83 : gJ (sJ σ 83 (lN be)) 83 = lN be := by rw [gJ_sJ, if_pos rfl]
      have q86 : gJ (sJ σ 83 (lN be)) 86 = lN s.2.2.1 := by rw [gJ_sJ, if_neg (by decide)]; exact hT.1
      have p83 : xpJ (mh m h σ) 12 83 m (lN be) = some (mh m h (sJ σ 83 (lN be))) := Mp83 hm _
      generalize sJ σ 83 (lN be) = σ1 at *
      have e85 : lN (ad x) + lN (oZ (tb (x / 24)) (x % 24)) - lN be = lN (ad x + zS tb x) - lN be := by rw [lN_add]; rfl
      have fin : ∀ w, ∃ σ', f_M_findTemplate_102 F (f_M_findTemplate_19 F f) m (nI 1) (nI P) (lN (ad x + zS tb x) - lN be) m w (mh m h σ1) = f_M_findTemplate_161 F m (bI ((ll.drop (P + 1)).foldl (ft1 tb ad) (ft1 tb ad s x)).1) (mh m h σ') ∧ RTm σ' ((ll.drop (P + 1)).foldl (ft1 tb ad) (ft1 tb ad s x)) ∧ 1 ≤ ((ll.drop (P + 1)).foldl (ft1 tb ad) (ft1 tb ad s x)).2.2.1 ∧ ((ll.drop (P + 1)).foldl (ft1 tb ad) (ft1 tb ad s x)).2.2.1 ≤ 4096 ∧ FR [] [83, 84, 85, 86] [] [] σ σ' := by
        intro w
        obtain ⟨σ2, hσ2⟩ : ∃ z, z = sJ (sJ σ1 84 w) 85 (lN (ad x + zS tb x) - lN be) := ⟨_, rfl⟩
        have f2 : FR [] [83, 84, 85, 86] [] [] σ1 σ2 := by
          rw [hσ2]
          exact FR_trans (FR_mono (FR_J σ1 84 _) (by decide) (by decide) (by decide) (by decide)) (FR_mono (FR_J _ 85 _) (by decide) (by decide) (by decide) (by decide))
        have f12 : FR [] [83, 84, 85, 86] [] [] σ σ2 := FR_trans (FR_mono f1 (by decide) (by decide) (by decide) (by decide)) f2
        have g83 : gJ σ2 83 = lN be := by rw [hσ2, gJ_sJ, if_neg (by decide), gJ_sJ, if_neg (by decide)]; exact q83
        have g85 : gJ σ2 85 = lN (ad x + zS tb x) - lN be := by rw [hσ2, gJ_sJ, if_pos rfl]
        have g86 : gJ σ2 86 = lN s.2.2.1 := by rw [hσ2, gJ_sJ, if_neg (by decide), gJ_sJ, if_neg (by decide)]; exact q86
        have q51 : gA σ2 51 P = nI (x / 24) := by rw [f12.2.2.1 51 (by decide)]; exact r1
        have q54 : gA σ2 54 P = nI (x % 24) := by rw [f12.2.2.1 54 (by decide)]; exact r4
        have hb2 := OB_FR hb f12 (by decide)
        have last : ∀ v, v = (if alS tb x ≤ s.2.2.1 then s.2.2.1 else alS tb x) → ∃ σ', f_M_findTemplate_152 F (f_M_findTemplate_19 F f) m (nI 1) (nI P) m (lN v) (mh m h σ2) = f_M_findTemplate_161 F m (bI ((ll.drop (P + 1)).foldl (ft1 tb ad) (ft1 tb ad s x)).1) (mh m h σ') ∧ RTm σ' ((ll.drop (P + 1)).foldl (ft1 tb ad) (ft1 tb ad s x)) ∧ 1 ≤ ((ll.drop (P + 1)).foldl (ft1 tb ad) (ft1 tb ad s x)).2.2.1 ∧ ((ll.drop (P + 1)).foldl (ft1 tb ad) (ft1 tb ad s x)).2.2.1 ≤ 4096 ∧ FR [] [83, 84, 85, 86] [] [] σ σ' := by
          intro v hv
          have f3 := FR_J σ2 86 (lN v)
          have f13 : FR [] [83, 84, 85, 86] [] [] σ (sJ σ2 86 (lN v)) := FR_trans f12 (FR_mono f3 (by decide) (by decide) (by decide) (by decide))
          have hv2 : 1 ≤ v ∧ v ≤ 4096 := by rw [hv]; split <;> omega
          obtain ⟨σ4, d1, d2, d3, d4, d5⟩ := ih (P + 1) f (sJ σ2 86 (lN v)) (ft1 tb ad s x) (by omega) (by omega) (fun t ht => OB_FR (hB t ht) f13 (by decide)) (RLa_FR hL f13 (by decide) (by decide)) (fun Q y hy hd => by rw [f13.2.2.2 57 (by decide), f13.2.2.2 58 (by decide)]; exact hA Q y hy hd) (by rw [e1, ← hv]; exact hv2.1) (by rw [e1, ← hv]; exact hv2.2) (by
            rw [e1, ← hv]
            refine ⟨by rw [gJ_sJ, if_pos rfl], fun _ => ⟨?_, ?_⟩⟩
            · rw [gJ_sJ, if_neg (by decide)]; exact g83
            · rw [gJ_sJ, if_neg (by decide)]; exact g85)
          refine ⟨σ4, ?_, d2, d3, d4, FR_trans f13 d5⟩
          unfold f_M_findTemplate_152 f_M_findTemplate_155
          rw [Mp86 hm, bs, nI_add]
          rw [e1] at d1
          rw [e1]
          exact d1
        unfold f_M_findTemplate_102
        rw [Mp84 hm, bs, Mp85 hm, bs, ← hσ2, Mr51 hm, bs, Ma51 hm (by omega), bs, q51, e_o hm, bs, O_obj hm hb2, xb_mk, Mr54 hm, bs, Ma54 hm (by omega), bs, q54, e_o hm, bs, O_align hm hF hb2 hx2.2.2, xb_mk, Mg86 hm, bs, g86]
        by_cases c3 : alS tb x ≤ s.2.2.1
        · rw [if_pos (show lN (oA (tb (x / 24)) (x % 24)) ≤ lN s.2.2.1 from (pk_lLE (show alS tb x < 2 ^ 63 by omega) (by omega)).mpr c3), bs]
          exact last _ (by rw [if_pos c3])
        · rw [if_neg (show ¬ lN (oA (tb (x / 24)) (x % 24)) ≤ lN s.2.2.1 from fun q => c3 ((pk_lLE (show alS tb x < 2 ^ 63 by omega) (by omega)).mp q))]
          exact last (alS tb x) (by rw [if_neg c3])
      unfold f_M_findTemplate_58
      rw [p83, bs, Mr57 hm, bs, Ma57 hm (by omega), bs, q57, Mr56 hm, bs, Ma56 hm (by omega), bs, q56, Mg83 hm, bs, q83, nI_l (show oZ (tb (x / 24)) (x % 24) < 2 ^ 31 by have : zS tb x ≤ 16384 := hxz.1; show zS tb x < _; omega), e85, Mr55 hm, bs, Ma55 hm (by omega), bs, q55]
      by_cases c4 : oG (tb (x / 24)) (x % 24) = 4
      · rw [if_pos (by rw [c4])]
        exact fin _
      · rw [if_neg (fun q => c4 ((nI_eq (by omega) (by decide)).mp q)), Mg84 hm, bs]
        exact fin _
    · have e1 : ft1 tb ad s x = s := by unfold ft1; rw [if_neg c1]
      rw [if_neg (nI_ge (by omega) (by omega)), e1]
      exact ih (P + 1) f σ s (by omega) (by omega) hB hL hA h1 h2 hT
theorem q_findTemplate {σ : px_S} {bg2 : Nat} (hm : m ≤ h.length) (hF : 65536 < F) (hl : llP T tb ll) (hZ : ∀ x, x ∈ ll → zS tb x ≤ 16384 ∧ alS tb x ≤ 4096) (hB : ∀ t, t < T → OB σ t (tO t) (tn t) (tb t)) (hL : RLa σ tq tb ll) (hA : RAd σ ll (fun x => 4 ≤ oG (tb (x / 24)) (x % 24)) ad) (h61 : gB σ 61 2 = lN bg2) (hle : (ll.foldl (ft1 tb ad) (false, 0, 1, 0)).2.1 < 2 ^ 60) : ∃ σ', f_M_findTemplate F m (mh m h σ) = some ((), mh m h σ') ∧ gJ σ' 87 = lN (tpN bg2 (ll.foldl (ft1 tb ad) (false, 0, 1, 0))) ∧ FR [] [83, 84, 85, 86, 87] [] [] σ σ' := by
  have hl1 := hl.1
  obtain ⟨σ1, hσ1⟩ : ∃ z, z = sJ (sJ (sJ σ 84 (lN 0)) 85 (lN 0)) 86 (lN 1) := ⟨_, rfl⟩
  have f1 : FR [] [83, 84, 85, 86] [] [] σ σ1 := by
    rw [hσ1]
    exact FR_trans (FR_mono (FR_J σ 84 _) (by decide) (by decide) (by decide) (by decide)) (FR_trans (FR_mono (FR_J _ 85 _) (by decide) (by decide) (by decide) (by decide)) (FR_mono (FR_J _ 86 _) (by decide) (by decide) (by decide) (by decide)))
  obtain ⟨σ2, a1, a2, a3, a4, a5⟩ := q_fT_19 (F := F) (h := h) (ad := ad) hm (by omega) hl hZ ll.length 0 F σ1 (false, 0, 1, 0) (by omega) (by omega) (fun t ht => OB_FR (hB t ht) f1 (by decide)) (RLa_FR hL f1 (by decide) (by decide)) (fun Q y hy hd => by rw [f1.2.2.2 57 (by decide), f1.2.2.2 58 (by decide)]; exact hA Q y hy hd) (Nat.le_refl _) (show 1 ≤ 4096 by decide) ⟨by rw [hσ1, gJ_sJ, if_pos rfl], fun q => nomatch q⟩
  rw [List.drop_zero] at a1 a2 a3 a4
  generalize ll.foldl (ft1 tb ad) (false, 0, 1, 0) = s at *
  have f2 : FR [] [83, 84, 85, 86, 87] [] [] σ σ2 := FR_trans (FR_mono f1 (by decide) (by decide) (by decide) (by decide)) (FR_mono a5 (by decide) (by decide) (by decide) (by decide))
  have g61 : gB σ2 61 2 = lN bg2 := by rw [f2.2.2.2 61 (by decide)]; exact h61
  have e0 : f_M_findTemplate F m (mh m h σ) = f_M_findTemplate_161 F m (bI s.1) (mh m h σ2) := by
    unfold f_M_findTemplate
    rw [Mp84 hm, bs, Mp85 hm, bs, Mp86 hm, bs, ← hσ1, show nI 0 = bI false from rfl]
    rw [show nI 0 = bI false from rfl] at a1
    exact a1
  rw [e0]
  unfold f_M_findTemplate_161 f_M_findTemplate_191 tpN
  cases es : s.1 with
  | false =>
    rw [if_pos (show bI false = 0 from rfl), Mr61 hm, bs, Ma61 hm (by decide), bs, g61, Mp87 hm, bs, if_neg (by decide)]
    exact ⟨_, rfl, by rw [gJ_sJ, if_pos rfl], FR_trans f2 (FR_mono (FR_J σ2 87 _) (by decide) (by decide) (by decide) (by decide))⟩
  | true =>
    have ht := a2.2 es
    rw [if_neg (show ¬ bI true = 0 by decide), Mg83 hm, bs, Mg85 hm, bs, Mg86 hm, bs, ht.1, ht.2, a2.1, l_back, q_up a3 (by omega), xb_mk, Mp87 hm, bs, if_pos rfl]
    exact ⟨_, rfl, by rw [gJ_sJ, if_pos rfl], FR_trans f2 (FR_mono (FR_J σ2 87 _) (by decide) (by decide) (by decide) (by decide))⟩
end MFT
