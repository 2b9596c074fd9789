section
/-! calls that leave the memory: copies of the class's safety (made by a program, mkfzr.py) -/
section CMGj
variable {wq : Nat} {F : Nat} {c : px_CT} {sk : Nat → Nat × Nat × Nat} {L : Nat} {zb : Option Nat} {τ0 τ : px_TT} {r q : Nat} {own : Nat → Nat × Nat} {fs : px_FS} {s : px_TK} {xs : px_NL} {ST rn : Nat → Bool} {ws : List (List Nat)} {I : px_TT → Prop} {α : Type} {V : α → Prop} {t : Nat}
theorem jpN_SI {A i : Nat} (hI : SJ wq zb sk L τ0 τ) (hA : A ≠ 1717) : pN τ A i = pN τ0 A i := by
  unfold pN
  rw [hI.1.2.2.2.2.2 A hA]
theorem jtkn_le {j : Nat} (h3 : S3 sk L own τ0 fs s xs ST rn ws) (hI : SJ wq zb sk L τ0 τ) (hj : s.2.2.1.length ≤ j) (hj2 : j < 2 ^ 31) : fI τ 147 14 ≤ nI j := by
  rw [jSI_147 hI (by decide), h3.2.1.2.2.2.1.2.2.1]
  exact nI_le hj hj2
theorem jtkn_gt {j : Nat} (h3 : S3 sk L own τ0 fs s xs ST rn ws) (hI : SJ wq zb sk L τ0 τ) (hc : ¬ fI τ 147 14 ≤ nI j) (hj2 : j < 2 ^ 31) : j < s.2.2.1.length := Nat.lt_of_not_le (fun h => hc (jtkn_le h3 hI h hj2))
theorem jsx_obj {f : Option Nat → px_H → Option (α × px_H)} (h3 : S3 sk L own τ0 fs s xs ST rn ws) (hI : SJ wq zb sk L τ0 τ) (ht : t < s.2.2.1.length) (g : ∀ q, Obt τ0 s t q → Sf sk L I V (f (some q) (cH sk L τ))) : Sf sk L I V (xb (f_Link_object F c 147 (nI t) (cH sk L τ)) f) := by
  obtain ⟨q', q1, q2, hD, hcb, he, hp, hRS, h89⟩ := TKe_ob h3.2.1 ht
  rw [k_object (TKe_Zf h3.2.1 hI.1) q1, xb_mk]
  obtain ⟨⟨hG, hY, hw⟩, _, _⟩ := hD
  exact g _ ⟨⟨q', q1, rfl⟩, ⟨q', q2, rfl⟩, ⟨_, w2_M hw, hY.2.1⟩, _, hG.1.2.1.2.2, hG.1.2.2.2.2⟩
theorem jsx_part {f : Option Nat → px_H → Option (α × px_H)} {i : Nat} (h3 : S3 sk L own τ0 fs s xs ST rn ws) (hI : SJ wq zb sk L τ0 τ) (ht : t < s.2.2.1.length) (hi : i < 24) (g : ∀ x, x < 1536 → Sf sk L I V (f (some (152 + x)) (cH sk L τ))) : Sf sk L I V (xb (f_Link_part F c 147 (nI t) (nI i) (cH sk L τ)) f) := by
  have hT := S3_T h3
  rw [k_part h3.1.1.1.1 (GR_Z h3.1.1.1.2.1 hI.1) (by omega) hi, xb_mk]
  exact g _ (by omega)
theorem jsx_partI {f : Option Nat → px_H → Option (α × px_H)} {x : Int32} (h3 : S3 sk L own τ0 fs s xs ST rn ws) (hI : SJ wq zb sk L τ0 τ) (ht : t < s.2.2.1.length) (h1 : ¬ x ≤ 0) (h2 : ¬ nI 24 ≤ x) (g : ∀ x, x < 1536 → Sf sk L I V (f (some (152 + x)) (cH sk L τ))) : Sf sk L I V (xb (f_Link_part F c 147 (nI t) x (cH sk L τ)) f) := by
  have hn : ¬ x < 0 := fun h => h1 (Int32.le_of_lt h)
  obtain ⟨i, hi, rfl⟩ := nI_of hn
  exact jsx_part h3 hI ht (Nat.lt_of_not_le (fun h => h2 (nI_le h hi))) g
theorem jsx_name {f : Option Nat → px_H → Option (α × px_H)} {x : Int32} (h3 : S3 sk L own τ0 fs s xs ST rn ws) (hI : SJ wq zb sk L τ0 τ) (ht : t < s.2.2.1.length) (g0 : Sf sk L I V (f none (cH sk L τ))) (g1 : ∀ p, Nmo sk L τ0 p → Sf sk L I V (f (some p) (cH sk L τ))) : Sf sk L I V (xb (f_Link_nameOf F c 147 (nI t) x (cH sk L τ)) f) := by
  have hT := S3_T h3
  have hS := h3.1.1.1.1
  have hR := GR_Z h3.1.1.1.2.1 hI.1
  obtain ⟨q', q1, q2, hD, hcb, he, hp, hRS, h89⟩ := TKe_ob h3.2.1 ht
  by_cases c1 : x < 0
  · have e : f_Link_nameOf F c 147 (nI t) x (cH sk L τ) = some (none, cH sk L τ) := by
      unfold f_Link_nameOf f_Link_nameOf_34 f_Link_nameOf_35 f_Link_nameOf_52
      rw [if_pos c1, if_pos (show nI 0 = 0 from rfl)]
    rw [e, xb_mk]; exact g0
  · obtain ⟨j, hj, rfl⟩ := nI_of c1
    by_cases c2 : j < 64
    · rw [k_nameOf hS hR (by omega) c2, xb_mk, hI.1.2.2.2.2.2 1692 (by decide), (hRS j c2).1]
      unfold syN
      by_cases c3 : hsN (tB fs s.2.2.1 t) j = true
      · rw [if_pos c3]
        have hm := (hRS j c2).2 c3
        have hl := plc_lt hm
        rw [List.length_map] at hl
        exact g1 _ (TKe_Nmo h3.2.1 h3.2.2.1 hl)
      · rw [if_neg c3]; exact g0
    · have e : f_Link_nameOf F c 147 (nI t) (nI j) (cH sk L τ) = some (none, cH sk L τ) := by
        unfold f_Link_nameOf f_Link_nameOf_34 f_Link_nameOf_35 f_Link_nameOf_52
        rw [if_neg c1, if_pos (show nI 64 ≤ nI j from nI_le (by omega) hj), if_pos (show nI 0 = 0 from rfl)]
      rw [e, xb_mk]; exact g0
theorem jsx_stay {f : Option Nat → px_H → Option (α × px_H)} {i : Nat} (h3 : S3 sk L own τ0 fs s xs ST rn ws) (hF : 65540 < F) (hI : SJ wq zb sk L τ0 τ) (ht : t < s.2.2.1.length) (hq : Obt τ0 s t q) (hc : ¬ fI τ q 8 ≤ nI i) (hi2 : i < 2 ^ 31) (g0 : Sf sk L I V (f none (cH sk L τ))) (g1 : ∀ x, x < 1536 → i < oS (tB fs s.2.2.1 t) → isS (tB fs s.2.2.1 t) i = true → Sf sk L I V (f (some (152 + x)) (cH sk L τ))) : Sf sk L I V (xb (f_Link_stayingTarget F c 147 (nI t) (nI i) (cH sk L τ)) f) := by
  have hT := S3_T h3
  have hk := TKe_Zf h3.2.1 hI.1
  obtain ⟨q', q1, q2, hD, hcb, he, hp, hRS, h89⟩ := TKe_ob hk ht
  obtain ⟨⟨q'', e1, rfl⟩, _⟩ := hq
  rw [q1] at e1
  injection e1 with e1
  subst e1
  have h8 : fI τ (10 + 2 * q') 8 = nI (oS (tB fs s.2.2.1 t)) := by rw [← hcb]; exact hD.1.1.1.2.2.2.2
  have hi : i < oS (tB fs s.2.2.1 t) := Nat.lt_of_not_le (fun h => hc (by rw [h8]; exact nI_le h hi2))
  rw [k_stayT hk (by omega) ht hi, xb_mk]
  by_cases cc : isS (tB fs s.2.2.1 t) i = true ∧ ST (24 * t + oI (tB fs s.2.2.1 t) i) = true
  · rw [if_pos cc]
    have hI2 : oI (tB fs s.2.2.1 t) i < oS (tB fs s.2.2.1 t) := by
      have := cc.1; unfold isS at this; exact (of_decide_eq_true this).2.1
    have h24 := (TKe_ys hk t ht).2.1
    exact g1 _ (by omega) hi cc.1
  · rw [if_neg cc]; exact g0
theorem jsx_sites {f : Int32 → px_H → Option (α × px_H)} {i : Nat} (h3 : S3 sk L own τ0 fs s xs ST rn ws) (hF : 65540 < F) (hI : SJ wq zb sk L τ0 τ) (ht : t < s.2.2.1.length) (hq : Obt τ0 s t q) (hi : i < oS (tB fs s.2.2.1 t)) (hs : isS (tB fs s.2.2.1 t) i = true) (g : ∀ n, n ≤ 65536 → Sf sk L I V (f (nI n) (cH sk L τ))) : Sf sk L I V (xb (f_ObjectFile_sitesOf F c q (nI i) (cH sk L τ)) f) := by
  have hk := TKe_Zf h3.2.1 hI.1
  obtain ⟨q', q1, q2, hD, hcb, he, hp, hRS, h89⟩ := TKe_ob hk ht
  obtain ⟨⟨q'', e1, rfl⟩, _⟩ := hq
  rw [q1] at e1
  injection e1 with e1
  subst e1
  have hn : tNf fs s.2.2.1 t ≤ 65536 := by have := hD.1.1.1.1.2.2.2.2.2.2.2.2.1; omega
  have hb : sN (tB fs s.2.2.1 t) i ≤ 65536 := by
    by_cases c0 : sN (tB fs s.2.2.1 t) i = 0
    · omega
    · have hz : 0 < sN (tB fs s.2.2.1 t) i := by omega
      have hpl := (s_place he hi hs (show sN (tB fs s.2.2.1 t) i - 1 < sN (tB fs s.2.2.1 t) i by omega)).1
      unfold sP at hpl
      omega
  rw [(k_sitesOf (F := F) (c := c) hD (by omega) hcb hi hs).1, xb_mk]
  exact g _ hb
theorem jso_num {x : Int32} {k : Nat} (h0 : S0 sk L τ0) (hF : 65540 < F) (hI : SJ wq zb sk L τ0 τ) (hq : OBq q) (hk : k ≤ 8) : ∃ v, f_ObjectFile_num F c q x (nI k) (cH sk L τ) = some (v, cH sk L τ) := k_onumS (by omega) h0.1 (GR_Z h0.2.1 hI.1) (jOBq_F h0 hI hq) hk
theorem jso_type {x : Int32} (h0 : S0 sk L τ0) (hF : 65540 < F) (hI : SJ wq zb sk L τ0 τ) (hq : OBq q) : ∃ v, f_ObjectFile_typeOf F c q x (cH sk L τ) = some (v, cH sk L τ) := by
  have ho := jOBq_F h0 hI hq
  obtain ⟨w, kw⟩ := jso_num (F := F) (c := c) (x := (fI τ q 7 + nI 64 * x) + nI 4) (k := 4) h0 hF hI hq (by decide)
  unfold f_ObjectFile_typeOf
  exact ⟨_, by rw [C7g7 ho.1, bs, c_o ho.1, bs, kw, xb_mk]⟩
theorem jso_flags {x : Int32} (h0 : S0 sk L τ0) (hF : 65540 < F) (hI : SJ wq zb sk L τ0 τ) (hq : OBq q) : ∃ v, f_ObjectFile_flagsOf F c q x (cH sk L τ) = some (v, cH sk L τ) := by
  have ho := jOBq_F h0 hI hq
  obtain ⟨w, kw⟩ := jso_num (F := F) (c := c) (x := (fI τ q 7 + nI 64 * x) + nI 8) (k := 8) h0 hF hI hq (by decide)
  unfold f_ObjectFile_flagsOf
  exact ⟨_, by rw [C7g7 ho.1, bs, c_o ho.1, bs, kw, xb_mk]⟩
theorem jso_align {x : Int32} (h0 : S0 sk L τ0) (hF : 65540 < F) (hI : SJ wq zb sk L τ0 τ) (hq : OBq q) : ∃ v, f_ObjectFile_alignOf F c q x (cH sk L τ) = some (v, cH sk L τ) := by
  have ho := jOBq_F h0 hI hq
  obtain ⟨w, kw⟩ := jso_num (F := F) (c := c) (x := (fI τ q 7 + nI 64 * x) + nI 48) (k := 8) h0 hF hI hq (by decide)
  unfold f_ObjectFile_alignOf
  exact ⟨_, by rw [C7g7 ho.1, bs, c_o ho.1, bs, kw, xb_mk]⟩
theorem jso_place {x : Int32} (h0 : S0 sk L τ0) (hF : 65540 < F) (hI : SJ wq zb sk L τ0 τ) (hq : OBq q) : ∃ v, f_ObjectFile_placeOf F c q x (cH sk L τ) = some (v, cH sk L τ) := by
  have ho := jOBq_F h0 hI hq
  obtain ⟨w, kw⟩ := jso_num (F := F) (c := c) (x := (fI τ q 7 + nI 64 * x) + nI 24) (k := 8) h0 hF hI hq (by decide)
  unfold f_ObjectFile_placeOf
  exact ⟨_, by rw [C7g7 ho.1, bs, c_o ho.1, bs, kw, xb_mk]⟩
theorem jsec_le {j : Nat} (hq : Obt τ0 s t q) (hI : SJ wq zb sk L τ0 τ) (hj : 24 ≤ j) (hj2 : j < 2 ^ 31) : fI τ q 8 ≤ nI j := by
  obtain ⟨z, h1, h2⟩ := hq.2.2.2
  rw [jSI_q hI hq.2.1, h2]
  exact nI_le (by omega) hj2
theorem jsyt_le {j : Nat} (hq : Obt τ0 s t q) (hI : SJ wq zb sk L τ0 τ) (hj : 64 ≤ j) (hj2 : j < 2 ^ 31) : fI τ q 11 ≤ nI j := jsym_le hq.2.2 hq.2.1 hI hj hj2
end CMGj
section CMNj
variable {wq : Nat} {F : Nat} {c : px_CT} {sk : Nat → Nat × Nat × Nat} {L : Nat} {zb : Option Nat} {τ0 τ : px_TT} {r q : Nat} {own : Nat → Nat × Nat} {fs : px_FS} {s : px_TK} {xs : px_NL} {ST rn : Nat → Bool} {ws : List (List Nat)} {I I1 : px_TT → Prop} {α : Type} {V : α → Prop} {t : Nat}
theorem jsw_sI {f : px_H → Option (α × px_H)} {j : Nat} {v : Int32} (h0 : S0 sk L τ0) (hI : SJ wq zb sk L τ0 τ) (hj : j < 4096) (g : ∀ τ, SJ wq zb sk L τ0 τ → Sf sk L I V (f (cH sk L τ))) : Sf sk L I V ((xsI (cH sk L τ) 1 1716 (nI j) v).bind f) := by
  rw [c_sI (GS_a h0.1 (a := 1716) (n := 4096) (by decide) (by decide)) (Or.inr (Or.inl rfl)) (by decide) hj, bs]
  exact g _ (SJ_vI hI rfl)
theorem jSI_mono {N M : Nat} (h : SJ wq (some N) sk L τ0 τ) (hM : N ≤ M) : SJ wq (some M) sk L τ0 τ := by
  obtain ⟨a, b, c, d, e⟩ := h
  refine ⟨a, b, c, d, fun K hK => ?_⟩
  injection hK with hK
  obtain ⟨m, h1, h2, h3⟩ := e N rfl
  exact ⟨m, by omega, h2, h3⟩
theorem jSI_none (h : SJ wq zb sk L τ0 τ) : SJ wq none sk L τ0 τ := ⟨h.1, h.2.1, h.2.2.1, h.2.2.2.1, fun N hN => by cases hN⟩
theorem jSI_some {N : Nat} (h : SJ wq none sk L τ0 τ) (hm : MLs N sk L τ0 τ) : SJ wq (some N) sk L τ0 τ := ⟨h.1, h.2.1, h.2.2.1, h.2.2.2.1, fun M hM => by injection hM with hM; subst hM; exact hm⟩
theorem jSI_0 (h : SJ wq zb sk L τ0 τ) : SJ wq (some 0) sk L τ0 (tI τ 1713 6 (nI 0)) := jSI_some (jSI_cnt h) ⟨0, Nat.le_refl _, tI_at, fun i p hi _ => absurd hi (Nat.not_lt_zero i)⟩
theorem jsf_listN {N p : Nat} (h0 : S0 sk L τ0) (hF : 65540 < F) (hN : N < 2 ^ 30) (hp : Nmo sk L τ0 p) (hI : SJ wq (some N) sk L τ0 τ) : Sf sk L (SJ wq (some (N + 1)) sk L τ0) Any (f_Scribe_listName F c 1713 (some p) (cH sk L τ)) := by
  have o11 : ob sk L 11 1713 := GS_o h0.1 (by decide) (by decide)
  have hR := GR_Z h0.2.1 hI.1
  have hA : ar sk L 5 64 1717 := GS_a h0.1 (by decide) (by decide)
  unfold f_Scribe_listName f_Scribe_listName_47 f_Scribe_listName_11
  dsimp only
  refine sf_gI hp.2.1 (by decide) (by decide) (sf_i (fun hc => ?_) (fun hc => sf_r any (jSI_mono hI (by omega))))
  refine sf_gI o11 (by decide) (by decide) (sf_gI o11 (by decide) (by decide) ?_)
  rw [c_pI hp.2.1 (by decide) (by decide), bs]
  have hI1 : SJ wq (some N) sk L τ0 (tI τ p 17 (fI τ 1713 7 + fI τ 1713 6)) := SJ_tI hI (Or.inr (Or.inr (Or.inr (Or.inr (Or.inl ⟨hp.1, rfl⟩)))))
  generalize tI τ p 17 (fI τ 1713 7 + fI τ 1713 6) = τ1 at hI1
  have hR1 := GR_Z h0.2.1 hI1.1
  obtain ⟨m, hm, em, hl⟩ := hI1.2.2.2.2 N rfl
  refine sf_gI o11 (by decide) (by decide) (sf_gR o11 (by decide) (by decide) (GR_r (v := 1717) hR1 (by decide)) (sf_al hA (by decide) (sf_i (fun hc => ?_) (fun hc => ?_))))
  · refine sf_gI o11 (by decide) (by decide) ?_
    rw [c_pI o11 (by decide) (by decide), bs, em, nI_add]
    refine sf_r any (jSI_some (jSI_cnt hI1) ⟨m + 1, by omega, tI_at, fun i p' hi h64 e => ?_⟩)
    by_cases c1 : i < m
    · exact hl i p' c1 h64 e
    · exfalso
      rw [em] at hc
      exact absurd hc (nI_ge (by omega) (by omega))
  · have hm64 : m < 64 := Nat.lt_of_not_le (fun h => hc (by rw [em]; exact nI_le h (by omega)))
    refine sf_gR o11 (by decide) (by decide) (GR_r (v := 1717) hR1 (by decide)) (sf_gI o11 (by decide) (by decide) ?_)
    rw [em, c_sO hA (Or.inr (Or.inl rfl)) (by decide) hm64 hp.2.1, bs]
    refine sf_gI o11 (by decide) (by decide) ?_
    rw [c_pI o11 (by decide) (by decide), bs, show fI (vN τ1 1717 (va_up (eN τ1 1717) m (some p))) 1713 6 = nI m from em, nI_add]
    have hI2 : SJ wq none sk L τ0 (vN τ1 1717 (va_up (eN τ1 1717) m (some p))) := ⟨frZ_trans hI1.1 frZ_vN, hI1.2.1, hI1.2.2.1, hI1.2.2.2.1, fun N hN => by cases hN⟩
    refine sf_r any (jSI_some (jSI_cnt hI2) ⟨m + 1, by omega, tI_at, fun i p' hi h64 e => ?_⟩)
    have e' : va_up (eN τ1 1717) m (some p) i = some p' := by
      rw [← show eN (vN τ1 1717 (va_up (eN τ1 1717) m (some p))) 1717 = va_up (eN τ1 1717) m (some p) from (u1_eq : u1 τ1.2.2.2.2.2 1717 _ 1717 = _)]
      exact e
    by_cases c1 : i = m
    · subst c1
      rw [va_up_a] at e'
      injection e' with e'
      subst e'
      exact hp
    · rw [va_up_n c1] at e'
      exact hl i p' (by omega) h64 e'
theorem jsf_listO {N : Nat} (hI : SJ wq (some N) sk L τ0 τ) : Sf sk L (SJ wq (some (N + 1)) sk L τ0) Any (f_Scribe_listName F c 1713 none (cH sk L τ)) := by
  unfold f_Scribe_listName f_Scribe_listName_11
  exact sf_r any (jSI_mono hI (by omega))
theorem jsx_nmAt {f : Option Nat → px_H → Option (α × px_H)} {j : Nat} (h3 : S3 sk L own τ0 fs s xs ST rn ws) (hI : SJ wq zb sk L τ0 τ) (hc : ¬ fI τ 148 2 ≤ nI j) (hj : j < 2 ^ 31) (g : ∀ p, Nmo sk L τ0 p → Sf sk L I V (f (some p) (cH sk L τ))) : Sf sk L I V (xb (f_Names_at F c 148 (nI j) (cH sk L τ)) f) := by
  have hS := h3.1.1.1.1
  have hR := GR_Z h3.1.1.1.2.1 hI.1
  obtain ⟨n1, n2, n3, n4, n5, n6, n7⟩ := h3.2.1.2.2.2.1.2.1.1
  rw [List.length_map] at n4 n6
  have e2 : fI τ 148 2 = nI xs.length := (hI.1.1 148 2 (Zc_no (by omega)) (by omega) (by omega) (by omega) (by omega)).trans n6
  have hjx : j < xs.length := Nat.lt_of_not_le (fun h => hc (by rw [e2]; exact nI_le h hj))
  have ej := (n7 j _ (by rw [List.getElem?_map, List.getElem?_eq_getElem hjx]; rfl)).2.1
  have e : f_Names_at F c 148 (nI j) (cH sk L τ) = some (some (pN τ0 149 j), cH sk L τ) := by
    unfold f_Names_at f_Names_at_31 f_Names_at_44
    rw [if_neg (nI_pos (by omega)), C6g2 (G148 hS), bs, if_neg hc, C6r0 (G148 hS) (GR_r (v := 149) hR (by decide)), bs, c_l (G149 hS) (by decide), bs, if_neg (nI_ge (by omega) (by omega)), bs, c_aN (G149 hS) (Or.inr (Or.inl rfl)) (by decide) (by omega), bs, hI.1.2.2.2.2.2 149 (by decide), ej]
  rw [e, xb_mk]; exact g _ (TKe_Nmo h3.2.1 h3.2.2.1 hjx)
theorem jnmc_le {j : Nat} (h3 : S3 sk L own τ0 fs s xs ST rn ws) (hI : SJ wq zb sk L τ0 τ) (hj : 4128 ≤ j) (hj2 : j < 2 ^ 31) : fI τ 148 2 ≤ nI j := by
  obtain ⟨n1, n2, n3, n4, n5, n6, n7⟩ := h3.2.1.2.2.2.1.2.1.1
  rw [hI.1.1 148 2 (Zc_no (by omega)) (by omega) (by omega) (by omega) (by omega), n6]
  exact nI_le (by omega) hj2
theorem jwsc_le {j : Nat} (h3 : S3 sk L own τ0 fs s xs ST rn ws) (hI : SJ wq zb sk L τ0 τ) (hj : 16 ≤ j) (hj2 : j < 2 ^ 31) : fI τ 143 2 ≤ nI j := by
  obtain ⟨n1, n2, n3, n4, n5, n6, n7⟩ := h3.2.2.2
  rw [hI.1.1 143 2 (Zc_no (by omega)) (by omega) (by omega) (by omega) (by omega), n6]
  exact nI_le (by omega) hj2
theorem jsx_wsAt {f : Option Nat → px_H → Option (α × px_H)} {j : Nat} (h3 : S3 sk L own τ0 fs s xs ST rn ws) (hI : SJ wq zb sk L τ0 τ) (hc : ¬ fI τ 143 2 ≤ nI j) (hj : j < 2 ^ 31) (g : ∀ p, ob sk L 5 p → Sf sk L I V (f (some p) (cH sk L τ))) : Sf sk L I V (xb (f_Names_at F c 143 (nI j) (cH sk L τ)) f) := by
  have hS := h3.1.1.1.1
  have hR := GR_Z h3.1.1.1.2.1 hI.1
  obtain ⟨n1, n2, n3, n4, n5, n6, n7⟩ := h3.2.2.2
  have e2 : fI τ 143 2 = nI ws.length := (hI.1.1 143 2 (Zc_no (by omega)) (by omega) (by omega) (by omega) (by omega)).trans n6
  have hjx : j < ws.length := Nat.lt_of_not_le (fun h => hc (by rw [e2]; exact nI_le h hj))
  obtain ⟨_, ej, eo, _⟩ := n7 j _ (List.getElem?_eq_getElem hjx)
  have e : f_Names_at F c 143 (nI j) (cH sk L τ) = some (some ((eN τ0 144 j).getD 0), cH sk L τ) := by
    unfold f_Names_at f_Names_at_31 f_Names_at_44
    rw [if_neg (nI_pos (by omega)), C6g2 (G143 hS), bs, if_neg hc, C6r0 (G143 hS) (GR_r (v := 144) hR (by decide)), bs, c_l (G144 hS) (by decide), bs, if_neg (nI_ge (by omega) (by omega)), bs, c_aN (G144 hS) (Or.inr (Or.inl rfl)) (by decide) (by omega), bs, hI.1.2.2.2.2.2 144 (by decide), ej]
    rfl
  rw [e, xb_mk]; exact g _ eo
theorem jso_find_2 {p : Nat} (h3 : S3 sk L own τ0 fs s xs ST rn ws) (hI : SJ wq zb sk L τ0 τ) (hp : ob sk L 5 p) : ∀ (d j f : Nat), j + d = 4128 → d < f → ∃ o, f_Names_find_2 F c f 148 (some p) (nI j) (cH sk L τ) = some (o, cH sk L τ) ∧ ∀ p', o = some p' → Nmo sk L τ0 p' := by
  have hS := h3.1.1.1.1
  have hR := GR_Z h3.1.1.1.2.1 hI.1
  obtain ⟨n1, n2, n3, n4, n5, n6, n7⟩ := h3.2.1.2.2.2.1.2.1.1
  rw [List.length_map] at n4 n6
  have e2 : fI τ 148 2 = nI xs.length := (hI.1.1 148 2 (Zc_no (by omega)) (by omega) (by omega) (by omega) (by omega)).trans n6
  have go : ∀ (d j f : Nat), j + d = 4128 → xs.length ≤ j → d < f → ∃ o, f_Names_find_2 F c f 148 (some p) (nI j) (cH sk L τ) = some (o, cH sk L τ) ∧ ∀ p', o = some p' → Nmo sk L τ0 p' := by
    intro d j f hj hx hf
    obtain ⟨f, rfl⟩ : ∃ y, f = y + 1 := ⟨f - 1, by omega⟩
    unfold f_Names_find_2 f_Names_find_85
    exact ⟨none, by rw [C6g2 (G148 hS), bs, e2, if_pos (nI_le hx (by omega))], fun p' e => by cases e⟩
  intro d
  induction d with
  | zero => intro j f hj hf; exact go 0 j f hj (by omega) hf
  | succ d ih =>
    intro j f hj hf
    by_cases hx : xs.length ≤ j
    · exact go (d + 1) j f hj hx hf
    have hjx : j < xs.length := by omega
    have ej := (n7 j _ (by rw [List.getElem?_map, List.getElem?_eq_getElem hjx]; rfl)).2.1
    have hn := TKe_Nmo h3.2.1 h3.2.2.1 hjx
    obtain ⟨f, rfl⟩ : ∃ y, f = y + 1 := ⟨f - 1, by omega⟩
    obtain ⟨o, eo, ho⟩ := ih (j + 1) f (by omega) (by omega)
    unfold f_Names_find_2 f_Names_find_79 f_Names_find_77
    rw [C6g2 (G148 hS), bs, e2, if_neg (nI_ge (by omega) (by omega)), C6r0 (G148 hS) (GR_r (v := 149) hR (by decide)), bs, c_l (G149 hS) (by decide), bs, if_neg (nI_ge (by omega) (by omega)), bs, c_aN (G149 hS) (Or.inr (Or.inl rfl)) (by decide) (by omega), bs, hI.1.2.2.2.2.2 149 (by decide), ej]
    dsimp only
    rw [nI_add, C5g0 hn.2.1, bs, bs, eo, C5g0 hp, bs, C5g1 hn.2.1, bs, C5g1 hp, bs, C5g2 hn.2.1, bs, C5g2 hp, bs, C5g3 hn.2.1, bs, C5g3 hp, bs]
    split
    · split
      · split
        · split
          · exact ⟨_, rfl, fun p' e => by injection e with e; rw [← e]; exact hn⟩
          · exact ⟨o, rfl, ho⟩
        · exact ⟨o, rfl, ho⟩
      · exact ⟨o, rfl, ho⟩
    · exact ⟨o, rfl, ho⟩
theorem jsx_find {f : Option Nat → px_H → Option (α × px_H)} {p : Nat} (h3 : S3 sk L own τ0 fs s xs ST rn ws) (hF : 65540 < F) (hI : SJ wq zb sk L τ0 τ) (hp : ob sk L 5 p) (g0 : Sf sk L I V (f none (cH sk L τ))) (g1 : ∀ p, Nmo sk L τ0 p → Sf sk L I V (f (some p) (cH sk L τ))) : Sf sk L I V (xb (f_Names_find F c 148 (some p) (cH sk L τ)) f) := by
  obtain ⟨o, e, h⟩ := jso_find_2 (F := F) (c := c) h3 hI hp 4128 0 F rfl (by omega)
  unfold f_Names_find
  rw [e, xb_mk]
  cases o with
  | none => exact g0
  | some p' => exact g1 p' (h p' rfl)
end CMNj
section CMOj
variable {wq : Nat} {F : Nat} {c : px_CT} {sk : Nat → Nat × Nat × Nat} {L : Nat} {zb : Option Nat} {τ0 τ : px_TT} {r q : Nat} {own : Nat → Nat × Nat} {fs : px_FS} {s : px_TK} {xs : px_NL} {ST rn : Nat → Bool} {ws : List (List Nat)} {t : Nat}
theorem jsf_np_59 {k4 : Nat → Int32 → Int32 → px_H → Option (Int32 × px_H)} (h3 : S3 sk L own τ0 fs s xs ST rn ws) (hF : 65540 < F) (ht : t < s.2.2.1.length) (hk : ∀ a1 τ, SJ wq zb sk L τ0 τ → Sf sk L (SJ wq zb sk L τ0) Any (k4 1713 a1 (nI (t + 1)) (cH sk L τ))) : ∀ (d i f : Nat) (a1 : Int32) (τ : px_TT), i + d = 24 → d < f → SJ wq zb sk L τ0 τ → Sf sk L (SJ wq zb sk L τ0) Any (f_Scribe_numberParts_59 F c k4 f 1713 a1 (nI t) (nI i) (cH sk L τ)) := by
  have h0 := h3.1.1.1
  intro d
  induction d with
  | zero =>
    intro i f a1 τ hj hf hI
    obtain ⟨f, rfl⟩ : ∃ y, f = y + 1 := ⟨f - 1, by omega⟩
    unfold f_Scribe_numberParts_59 f_Scribe_numberParts_100
    rw [nI_add]
    repeat' (first | (exact hk _ _ (by assumption)) | (exact absurd (jsec_le (j := i) (by assumption) hI (by omega) (by omega)) (by assumption)) | exact absurd (show nI 0 = 0 from rfl) (by assumption) | exact absurd (show nI 1 = 0 by assumption) (by decide) | ((with_reducible refine sf_i (fun hc => ?_) (fun hc => ?_))) | ((with_reducible refine sf_gF h0 ?_ ?_ ?_ ?_ ?_); decide; decide; decide; decide) | ((with_reducible refine sf_gI ?_ ?_ ?_ ?_); (first | assumption | exact GS_o h0.1 (by decide) (by decide) | exact RRj_o h0 (by assumption) | exact RRj_o h0 (Or.inr (by assumption)) | exact OBq_o h0 (by assumption) | exact OBq_o h0 (Obt_q (by assumption)) | exact G_part h0.1 (by assumption) | exact Nmo_o (by assumption)); decide; decide) | ((with_reducible refine sf_gJ ?_ ?_ ?_ ?_); (first | assumption | exact GS_o h0.1 (by decide) (by decide) | exact RRj_o h0 (by assumption) | exact RRj_o h0 (Or.inr (by assumption)) | exact OBq_o h0 (by assumption) | exact OBq_o h0 (Obt_q (by assumption)) | exact G_part h0.1 (by assumption) | exact Nmo_o (by assumption)); decide; decide) | ((with_reducible refine sf_gN ?_ ?_ ?_ ?_); (first | assumption | exact GS_o h0.1 (by decide) (by decide) | exact RRj_o h0 (by assumption) | exact RRj_o h0 (Or.inr (by assumption)) | exact OBq_o h0 (by assumption) | exact OBq_o h0 (Obt_q (by assumption)) | exact G_part h0.1 (by assumption) | exact Nmo_o (by assumption)); decide; decide) | ((with_reducible refine jsf_gG h0 (by assumption) ?_ ?_ ?_ ?_ (by with_unfolding_all exact rfl) ?_); decide; decide; decide; decide) | ((with_reducible refine sf_o ?_ (fun l => ?_)); (first | assumption | exact GS_o h0.1 (by decide) (by decide) | exact RRj_o h0 (by assumption) | exact RRj_o h0 (Or.inr (by assumption)) | exact OBq_o h0 (by assumption) | exact OBq_o h0 (Obt_q (by assumption)) | exact G_part h0.1 (by assumption) | exact Nmo_o (by assumption))) | ((with_reducible refine sf_s ?_)) | ((with_reducible refine sf_sb (by assumption) ?_)) | ((with_reducible refine sf_r ?_ ?_); (first | exact any | assumption | exact ⟨false, rfl⟩ | exact ⟨true, rfl⟩); assumption) | ((with_reducible refine sf_z ?_ ?_ ?_); (first | exact ⟨false, rfl⟩ | exact ⟨true, rfl⟩ | assumption); (first | exact any | exact ⟨false, rfl⟩ | exact ⟨true, rfl⟩ | assumption); assumption) | ((with_reducible refine jsx_obj h3 (by assumption) ?_ (fun q hq => ?_)); assumption))
  | succ d ih =>
    intro i f a1 τ hj hf hI
    obtain ⟨f, rfl⟩ : ∃ y, f = y + 1 := ⟨f - 1, by omega⟩
    unfold f_Scribe_numberParts_59 f_Scribe_numberParts_100 f_Scribe_numberParts_92
    rw [nI_add, nI_add]
    repeat' (first | (exact hk _ _ (by assumption)) | (exact ih _ _ _ _ (by omega) (by omega) (by assumption)) | exact absurd (show nI 0 = 0 from rfl) (by assumption) | exact absurd (show nI 1 = 0 by assumption) (by decide) | ((with_reducible refine sf_i (fun hc => ?_) (fun hc => ?_))) | ((with_reducible refine sf_gF h0 ?_ ?_ ?_ ?_ ?_); decide; decide; decide; decide) | ((with_reducible refine sf_gI ?_ ?_ ?_ ?_); (first | assumption | exact GS_o h0.1 (by decide) (by decide) | exact RRj_o h0 (by assumption) | exact RRj_o h0 (Or.inr (by assumption)) | exact OBq_o h0 (by assumption) | exact OBq_o h0 (Obt_q (by assumption)) | exact G_part h0.1 (by assumption) | exact Nmo_o (by assumption)); decide; decide) | ((with_reducible refine sf_gJ ?_ ?_ ?_ ?_); (first | assumption | exact GS_o h0.1 (by decide) (by decide) | exact RRj_o h0 (by assumption) | exact RRj_o h0 (Or.inr (by assumption)) | exact OBq_o h0 (by assumption) | exact OBq_o h0 (Obt_q (by assumption)) | exact G_part h0.1 (by assumption) | exact Nmo_o (by assumption)); decide; decide) | ((with_reducible refine sf_gN ?_ ?_ ?_ ?_); (first | assumption | exact GS_o h0.1 (by decide) (by decide) | exact RRj_o h0 (by assumption) | exact RRj_o h0 (Or.inr (by assumption)) | exact OBq_o h0 (by assumption) | exact OBq_o h0 (Obt_q (by assumption)) | exact G_part h0.1 (by assumption) | exact Nmo_o (by assumption)); decide; decide) | ((with_reducible refine jsf_gG h0 (by assumption) ?_ ?_ ?_ ?_ (by with_unfolding_all exact rfl) ?_); decide; decide; decide; decide) | ((with_reducible refine sf_o ?_ (fun l => ?_)); (first | assumption | exact GS_o h0.1 (by decide) (by decide) | exact RRj_o h0 (by assumption) | exact RRj_o h0 (Or.inr (by assumption)) | exact OBq_o h0 (by assumption) | exact OBq_o h0 (Obt_q (by assumption)) | exact G_part h0.1 (by assumption) | exact Nmo_o (by assumption))) | ((with_reducible refine sf_s ?_)) | ((with_reducible refine sf_sb (by assumption) ?_)) | ((with_reducible refine sf_r ?_ ?_); (first | exact any | assumption | exact ⟨false, rfl⟩ | exact ⟨true, rfl⟩); assumption) | ((with_reducible refine sf_z ?_ ?_ ?_); (first | exact ⟨false, rfl⟩ | exact ⟨true, rfl⟩ | assumption); (first | exact any | exact ⟨false, rfl⟩ | exact ⟨true, rfl⟩ | assumption); assumption) | ((with_reducible refine jsx_obj h3 (by assumption) ?_ (fun q hq => ?_)); assumption) | ((with_reducible refine jsx_stay h3 hF (by assumption) ?_ (by assumption) (by assumption) ?_ ?_ (fun x hx hi hs => ?_)); assumption; omega) | (dsimp only))
theorem jsf_np_17 {k4 : Nat → Int32 → Int32 → px_H → Option (Int32 × px_H)} (h3 : S3 sk L own τ0 fs s xs ST rn ws) (hF : 65540 < F) (ht : t < s.2.2.1.length) (hk : ∀ a1 τ, SJ wq zb sk L τ0 τ → Sf sk L (SJ wq zb sk L τ0) Any (k4 1713 a1 (nI (t + 1)) (cH sk L τ))) : ∀ (d i f : Nat) (a1 : Int32) (τ : px_TT), i + d = 24 → d < f → SJ wq zb sk L τ0 τ → Sf sk L (SJ wq zb sk L τ0) Any (f_Scribe_numberParts_17 F c k4 f 1713 a1 (nI t) (nI i) (cH sk L τ)) := by
  have h0 := h3.1.1.1
  intro d
  induction d with
  | zero =>
    intro i f a1 τ hj hf hI
    obtain ⟨f, rfl⟩ : ∃ y, f = y + 1 := ⟨f - 1, by omega⟩
    unfold f_Scribe_numberParts_17 f_Scribe_numberParts_57
    rw [if_pos (nI_le (by omega) (by omega))]
    exact jsf_np_59 h3 hF ht hk 24 0 F _ _ rfl (by omega) hI
  | succ d ih =>
    intro i f a1 τ hj hf hI
    obtain ⟨f, rfl⟩ : ∃ y, f = y + 1 := ⟨f - 1, by omega⟩
    unfold f_Scribe_numberParts_17 f_Scribe_numberParts_57 f_Scribe_numberParts_51
    rw [nI_add, if_neg (nI_ge (by omega) (by omega))]
    repeat' (first | (exact ih _ _ _ _ (by omega) (by omega) (by assumption)) | exact absurd (show nI 0 = 0 from rfl) (by assumption) | exact absurd (show nI 1 = 0 by assumption) (by decide) | ((with_reducible refine sf_i (fun hc => ?_) (fun hc => ?_))) | ((with_reducible refine sf_gF h0 ?_ ?_ ?_ ?_ ?_); decide; decide; decide; decide) | ((with_reducible refine sf_gI ?_ ?_ ?_ ?_); (first | assumption | exact GS_o h0.1 (by decide) (by decide) | exact RRj_o h0 (by assumption) | exact RRj_o h0 (Or.inr (by assumption)) | exact OBq_o h0 (by assumption) | exact OBq_o h0 (Obt_q (by assumption)) | exact G_part h0.1 (by assumption) | exact Nmo_o (by assumption)); decide; decide) | ((with_reducible refine sf_gJ ?_ ?_ ?_ ?_); (first | assumption | exact GS_o h0.1 (by decide) (by decide) | exact RRj_o h0 (by assumption) | exact RRj_o h0 (Or.inr (by assumption)) | exact OBq_o h0 (by assumption) | exact OBq_o h0 (Obt_q (by assumption)) | exact G_part h0.1 (by assumption) | exact Nmo_o (by assumption)); decide; decide) | ((with_reducible refine sf_gN ?_ ?_ ?_ ?_); (first | assumption | exact GS_o h0.1 (by decide) (by decide) | exact RRj_o h0 (by assumption) | exact RRj_o h0 (Or.inr (by assumption)) | exact OBq_o h0 (by assumption) | exact OBq_o h0 (Obt_q (by assumption)) | exact G_part h0.1 (by assumption) | exact Nmo_o (by assumption)); decide; decide) | ((with_reducible refine jsf_gG h0 (by assumption) ?_ ?_ ?_ ?_ (by with_unfolding_all exact rfl) ?_); decide; decide; decide; decide) | ((with_reducible refine sf_o ?_ (fun l => ?_)); (first | assumption | exact GS_o h0.1 (by decide) (by decide) | exact RRj_o h0 (by assumption) | exact RRj_o h0 (Or.inr (by assumption)) | exact OBq_o h0 (by assumption) | exact OBq_o h0 (Obt_q (by assumption)) | exact G_part h0.1 (by assumption) | exact Nmo_o (by assumption))) | ((with_reducible refine sf_s ?_)) | ((with_reducible refine sf_sb (by assumption) ?_)) | ((with_reducible refine sf_r ?_ ?_); (first | exact any | assumption | exact ⟨false, rfl⟩ | exact ⟨true, rfl⟩); assumption) | ((with_reducible refine sf_z ?_ ?_ ?_); (first | exact ⟨false, rfl⟩ | exact ⟨true, rfl⟩ | assumption); (first | exact any | exact ⟨false, rfl⟩ | exact ⟨true, rfl⟩ | assumption); assumption) | ((with_reducible refine jsx_part h3 (by assumption) ?_ ?_ (fun x hx => ?_)); assumption; omega) | ((with_reducible refine sf_pI ?_ ?_ ?_ ?_ (fun τ hi => ?_)); (first | assumption | exact GS_o h0.1 (by decide) (by decide) | exact RRj_o h0 (by assumption) | exact RRj_o h0 (Or.inr (by assumption)) | exact OBq_o h0 (by assumption) | exact OBq_o h0 (Obt_q (by assumption)) | exact G_part h0.1 (by assumption) | exact Nmo_o (by assumption)); decide; decide; (first | exact SJ_tI (by assumption) (by omega) | exact SI_m9 (by assumption) (by decide) | exact SI_m6 (by assumption) (by decide))))
theorem jsf_np_4 (h3 : S3 sk L own τ0 fs s xs ST rn ws) (hF : 65540 < F) : ∀ (d t f : Nat) (a1 : Int32) (τ : px_TT), t + d = s.2.2.1.length → d < f → SJ wq zb sk L τ0 τ → Sf sk L (SJ wq zb sk L τ0) Any (f_Scribe_numberParts_4 F c f 1713 a1 (nI t) (cH sk L τ)) := by
  have h0 := h3.1.1.1
  have hT := S3_T h3
  intro d
  induction d with
  | zero =>
    intro t f a1 τ hj hf hI
    obtain ⟨f, rfl⟩ : ∃ y, f = y + 1 := ⟨f - 1, by omega⟩
    unfold f_Scribe_numberParts_4 f_Scribe_numberParts_106
    repeat' (first | (exact absurd (jtkn_le (j := t) h3 hI (by omega) (by omega)) (by assumption)) | exact absurd (show nI 0 = 0 from rfl) (by assumption) | exact absurd (show nI 1 = 0 by assumption) (by decide) | ((with_reducible refine sf_i (fun hc => ?_) (fun hc => ?_))) | ((with_reducible refine sf_gF h0 ?_ ?_ ?_ ?_ ?_); decide; decide; decide; decide) | ((with_reducible refine sf_gI ?_ ?_ ?_ ?_); (first | assumption | exact GS_o h0.1 (by decide) (by decide) | exact RRj_o h0 (by assumption) | exact RRj_o h0 (Or.inr (by assumption)) | exact OBq_o h0 (by assumption) | exact OBq_o h0 (Obt_q (by assumption)) | exact G_part h0.1 (by assumption) | exact Nmo_o (by assumption)); decide; decide) | ((with_reducible refine sf_gJ ?_ ?_ ?_ ?_); (first | assumption | exact GS_o h0.1 (by decide) (by decide) | exact RRj_o h0 (by assumption) | exact RRj_o h0 (Or.inr (by assumption)) | exact OBq_o h0 (by assumption) | exact OBq_o h0 (Obt_q (by assumption)) | exact G_part h0.1 (by assumption) | exact Nmo_o (by assumption)); decide; decide) | ((with_reducible refine sf_gN ?_ ?_ ?_ ?_); (first | assumption | exact GS_o h0.1 (by decide) (by decide) | exact RRj_o h0 (by assumption) | exact RRj_o h0 (Or.inr (by assumption)) | exact OBq_o h0 (by assumption) | exact OBq_o h0 (Obt_q (by assumption)) | exact G_part h0.1 (by assumption) | exact Nmo_o (by assumption)); decide; decide) | ((with_reducible refine jsf_gG h0 (by assumption) ?_ ?_ ?_ ?_ (by with_unfolding_all exact rfl) ?_); decide; decide; decide; decide) | ((with_reducible refine sf_o ?_ (fun l => ?_)); (first | assumption | exact GS_o h0.1 (by decide) (by decide) | exact RRj_o h0 (by assumption) | exact RRj_o h0 (Or.inr (by assumption)) | exact OBq_o h0 (by assumption) | exact OBq_o h0 (Obt_q (by assumption)) | exact G_part h0.1 (by assumption) | exact Nmo_o (by assumption))) | ((with_reducible refine sf_s ?_)) | ((with_reducible refine sf_sb (by assumption) ?_)) | ((with_reducible refine sf_r ?_ ?_); (first | exact any | assumption | exact ⟨false, rfl⟩ | exact ⟨true, rfl⟩); assumption) | ((with_reducible refine sf_z ?_ ?_ ?_); (first | exact ⟨false, rfl⟩ | exact ⟨true, rfl⟩ | assumption); (first | exact any | exact ⟨false, rfl⟩ | exact ⟨true, rfl⟩ | assumption); assumption) | ((with_reducible refine sf_pI ?_ ?_ ?_ ?_ (fun τ hi => ?_)); (first | assumption | exact GS_o h0.1 (by decide) (by decide) | exact RRj_o h0 (by assumption) | exact RRj_o h0 (Or.inr (by assumption)) | exact OBq_o h0 (by assumption) | exact OBq_o h0 (Obt_q (by assumption)) | exact G_part h0.1 (by assumption) | exact Nmo_o (by assumption)); decide; decide; (first | exact SJ_tI (by assumption) (by omega) | exact SI_m9 (by assumption) (by decide) | exact SI_m6 (by assumption) (by decide))))
  | succ d ih =>
    intro t f a1 τ hj hf hI
    obtain ⟨f, rfl⟩ : ∃ y, f = y + 1 := ⟨f - 1, by omega⟩
    have ht : t < s.2.2.1.length := by omega
    unfold f_Scribe_numberParts_4 f_Scribe_numberParts_106
    repeat' (first | (exact jsf_np_17 h3 hF ht (fun a1 τ hτ => ih _ _ _ τ (by omega) (by omega) hτ) 24 0 F _ _ rfl (by omega) (by assumption)) | exact absurd (show nI 0 = 0 from rfl) (by assumption) | exact absurd (show nI 1 = 0 by assumption) (by decide) | ((with_reducible refine sf_i (fun hc => ?_) (fun hc => ?_))) | ((with_reducible refine sf_gF h0 ?_ ?_ ?_ ?_ ?_); decide; decide; decide; decide) | ((with_reducible refine sf_gI ?_ ?_ ?_ ?_); (first | assumption | exact GS_o h0.1 (by decide) (by decide) | exact RRj_o h0 (by assumption) | exact RRj_o h0 (Or.inr (by assumption)) | exact OBq_o h0 (by assumption) | exact OBq_o h0 (Obt_q (by assumption)) | exact G_part h0.1 (by assumption) | exact Nmo_o (by assumption)); decide; decide) | ((with_reducible refine sf_gJ ?_ ?_ ?_ ?_); (first | assumption | exact GS_o h0.1 (by decide) (by decide) | exact RRj_o h0 (by assumption) | exact RRj_o h0 (Or.inr (by assumption)) | exact OBq_o h0 (by assumption) | exact OBq_o h0 (Obt_q (by assumption)) | exact G_part h0.1 (by assumption) | exact Nmo_o (by assumption)); decide; decide) | ((with_reducible refine sf_gN ?_ ?_ ?_ ?_); (first | assumption | exact GS_o h0.1 (by decide) (by decide) | exact RRj_o h0 (by assumption) | exact RRj_o h0 (Or.inr (by assumption)) | exact OBq_o h0 (by assumption) | exact OBq_o h0 (Obt_q (by assumption)) | exact G_part h0.1 (by assumption) | exact Nmo_o (by assumption)); decide; decide) | ((with_reducible refine jsf_gG h0 (by assumption) ?_ ?_ ?_ ?_ (by with_unfolding_all exact rfl) ?_); decide; decide; decide; decide) | ((with_reducible refine sf_o ?_ (fun l => ?_)); (first | assumption | exact GS_o h0.1 (by decide) (by decide) | exact RRj_o h0 (by assumption) | exact RRj_o h0 (Or.inr (by assumption)) | exact OBq_o h0 (by assumption) | exact OBq_o h0 (Obt_q (by assumption)) | exact G_part h0.1 (by assumption) | exact Nmo_o (by assumption))) | ((with_reducible refine sf_s ?_)) | ((with_reducible refine sf_sb (by assumption) ?_)) | ((with_reducible refine sf_r ?_ ?_); (first | exact any | assumption | exact ⟨false, rfl⟩ | exact ⟨true, rfl⟩); assumption) | ((with_reducible refine sf_z ?_ ?_ ?_); (first | exact ⟨false, rfl⟩ | exact ⟨true, rfl⟩ | assumption); (first | exact any | exact ⟨false, rfl⟩ | exact ⟨true, rfl⟩ | assumption); assumption) | ((with_reducible refine sf_pI ?_ ?_ ?_ ?_ (fun τ hi => ?_)); (first | assumption | exact GS_o h0.1 (by decide) (by decide) | exact RRj_o h0 (by assumption) | exact RRj_o h0 (Or.inr (by assumption)) | exact OBq_o h0 (by assumption) | exact OBq_o h0 (Obt_q (by assumption)) | exact G_part h0.1 (by assumption) | exact Nmo_o (by assumption)); decide; decide; (first | exact SJ_tI (by assumption) (by omega) | exact SI_m9 (by assumption) (by decide) | exact SI_m6 (by assumption) (by decide))))
theorem jsf_nparts (h3 : S3 sk L own τ0 fs s xs ST rn ws) (hF : 65540 < F) (hI : SJ wq zb sk L τ0 τ) : Sf sk L (SJ wq zb sk L τ0) Any (f_Scribe_numberParts F c 1713 (cH sk L τ)) := by
  have hT := S3_T h3
  exact jsf_np_4 h3 hF _ 0 F _ _ (Nat.zero_add _) (by omega) hI
theorem jsf_ns_260 {k247 : Nat → Int32 → px_H → Option (Int32 × px_H)} (h3 : S3 sk L own τ0 fs s xs ST rn ws) (hF : 65540 < F) (ht : t < s.2.2.1.length) (hk : ∀ τ, SJ wq (some (4144 + 64 * (t + 1))) sk L τ0 τ → Sf sk L (SJ wq (some 8240) sk L τ0) Any (k247 1713 (nI (t + 1)) (cH sk L τ))) : ∀ (d j f : Nat) (τ : px_TT), j + d = 64 → d < f → SJ wq (some (4144 + 64 * t + j)) sk L τ0 τ → Sf sk L (SJ wq (some 8240) sk L τ0) Any (f_Scribe_numberSymbols_260 F c k247 f 1713 (nI t) (nI j) (cH sk L τ)) := by
  have h0 := h3.1.1.1
  have hT := S3_T h3
  intro d
  induction d with
  | zero =>
    intro j f τ hj hf hI
    obtain ⟨f, rfl⟩ : ∃ y, f = y + 1 := ⟨f - 1, by omega⟩
    unfold f_Scribe_numberSymbols_260 f_Scribe_numberSymbols_285
    rw [nI_add, if_pos (nI_le (by omega) (by omega))]
    exact hk _ (jSI_mono hI (by omega))
  | succ d ih =>
    intro j f τ hj hf hI
    obtain ⟨f, rfl⟩ : ∃ y, f = y + 1 := ⟨f - 1, by omega⟩
    unfold f_Scribe_numberSymbols_260 f_Scribe_numberSymbols_285
    rw [nI_add, if_neg (nI_ge (by omega) (by omega)), nI_add]
    repeat' (first | ((with_reducible refine sw_x (jsf_listO hI) (fun v τ hv hi => ?_))) | ((with_reducible refine sw_x (jsf_listN h0 hF ?_ ?_ hI) (fun v τ hv hi => ?_)); omega; assumption) | (exact ih _ _ _ (by omega) (by omega) (jSI_mono (by assumption) (by omega))) | exact absurd (show nI 0 = 0 from rfl) (by assumption) | exact absurd (show nI 1 = 0 by assumption) (by decide) | ((with_reducible refine sf_i (fun hc => ?_) (fun hc => ?_))) | ((with_reducible refine sf_gF h0 ?_ ?_ ?_ ?_ ?_); decide; decide; decide; decide) | ((with_reducible refine sf_gI ?_ ?_ ?_ ?_); (first | assumption | exact GS_o h0.1 (by decide) (by decide) | exact RRj_o h0 (by assumption) | exact RRj_o h0 (Or.inr (by assumption)) | exact OBq_o h0 (by assumption) | exact OBq_o h0 (Obt_q (by assumption)) | exact G_part h0.1 (by assumption) | exact Nmo_o (by assumption)); decide; decide) | ((with_reducible refine sf_gJ ?_ ?_ ?_ ?_); (first | assumption | exact GS_o h0.1 (by decide) (by decide) | exact RRj_o h0 (by assumption) | exact RRj_o h0 (Or.inr (by assumption)) | exact OBq_o h0 (by assumption) | exact OBq_o h0 (Obt_q (by assumption)) | exact G_part h0.1 (by assumption) | exact Nmo_o (by assumption)); decide; decide) | ((with_reducible refine sf_gN ?_ ?_ ?_ ?_); (first | assumption | exact GS_o h0.1 (by decide) (by decide) | exact RRj_o h0 (by assumption) | exact RRj_o h0 (Or.inr (by assumption)) | exact OBq_o h0 (by assumption) | exact OBq_o h0 (Obt_q (by assumption)) | exact G_part h0.1 (by assumption) | exact Nmo_o (by assumption)); decide; decide) | ((with_reducible refine jsf_gG h0 (by assumption) ?_ ?_ ?_ ?_ (by with_unfolding_all exact rfl) ?_); decide; decide; decide; decide) | ((with_reducible refine sf_o ?_ (fun l => ?_)); (first | assumption | exact GS_o h0.1 (by decide) (by decide) | exact RRj_o h0 (by assumption) | exact RRj_o h0 (Or.inr (by assumption)) | exact OBq_o h0 (by assumption) | exact OBq_o h0 (Obt_q (by assumption)) | exact G_part h0.1 (by assumption) | exact Nmo_o (by assumption))) | ((with_reducible refine sf_s ?_)) | ((with_reducible refine sf_sb (by assumption) ?_)) | ((with_reducible refine sf_r ?_ ?_); (first | exact any | assumption | exact ⟨false, rfl⟩ | exact ⟨true, rfl⟩); assumption) | ((with_reducible refine sf_z ?_ ?_ ?_); (first | exact ⟨false, rfl⟩ | exact ⟨true, rfl⟩ | assumption); (first | exact any | exact ⟨false, rfl⟩ | exact ⟨true, rfl⟩ | assumption); assumption) | ((with_reducible refine jsx_name h3 (by assumption) ?_ ?_ (fun p hp => ?_)); assumption))
theorem jsf_ns_247 (h3 : S3 sk L own τ0 fs s xs ST rn ws) (hF : 65540 < F) : ∀ (d t f : Nat) (τ : px_TT), t + d = s.2.2.1.length → d < f → SJ wq (some (4144 + 64 * t)) sk L τ0 τ → Sf sk L (SJ wq (some 8240) sk L τ0) Any (f_Scribe_numberSymbols_247 F c f 1713 (nI t) (cH sk L τ)) := by
  have h0 := h3.1.1.1
  have hT := S3_T h3
  intro d
  induction d with
  | zero =>
    intro t f τ hj hf hI
    obtain ⟨f, rfl⟩ : ∃ y, f = y + 1 := ⟨f - 1, by omega⟩
    unfold f_Scribe_numberSymbols_247 f_Scribe_numberSymbols_291
    repeat' (first | (exact sf_r any (jSI_mono hI (by omega))) | (exact absurd (jtkn_le (j := t) h3 hI (by omega) (by omega)) (by assumption)) | exact absurd (show nI 0 = 0 from rfl) (by assumption) | exact absurd (show nI 1 = 0 by assumption) (by decide) | ((with_reducible refine sf_i (fun hc => ?_) (fun hc => ?_))) | ((with_reducible refine sf_gF h0 ?_ ?_ ?_ ?_ ?_); decide; decide; decide; decide) | ((with_reducible refine sf_gI ?_ ?_ ?_ ?_); (first | assumption | exact GS_o h0.1 (by decide) (by decide) | exact RRj_o h0 (by assumption) | exact RRj_o h0 (Or.inr (by assumption)) | exact OBq_o h0 (by assumption) | exact OBq_o h0 (Obt_q (by assumption)) | exact G_part h0.1 (by assumption) | exact Nmo_o (by assumption)); decide; decide) | ((with_reducible refine sf_gJ ?_ ?_ ?_ ?_); (first | assumption | exact GS_o h0.1 (by decide) (by decide) | exact RRj_o h0 (by assumption) | exact RRj_o h0 (Or.inr (by assumption)) | exact OBq_o h0 (by assumption) | exact OBq_o h0 (Obt_q (by assumption)) | exact G_part h0.1 (by assumption) | exact Nmo_o (by assumption)); decide; decide) | ((with_reducible refine sf_gN ?_ ?_ ?_ ?_); (first | assumption | exact GS_o h0.1 (by decide) (by decide) | exact RRj_o h0 (by assumption) | exact RRj_o h0 (Or.inr (by assumption)) | exact OBq_o h0 (by assumption) | exact OBq_o h0 (Obt_q (by assumption)) | exact G_part h0.1 (by assumption) | exact Nmo_o (by assumption)); decide; decide) | ((with_reducible refine jsf_gG h0 (by assumption) ?_ ?_ ?_ ?_ (by with_unfolding_all exact rfl) ?_); decide; decide; decide; decide) | ((with_reducible refine sf_o ?_ (fun l => ?_)); (first | assumption | exact GS_o h0.1 (by decide) (by decide) | exact RRj_o h0 (by assumption) | exact RRj_o h0 (Or.inr (by assumption)) | exact OBq_o h0 (by assumption) | exact OBq_o h0 (Obt_q (by assumption)) | exact G_part h0.1 (by assumption) | exact Nmo_o (by assumption))) | ((with_reducible refine sf_s ?_)) | ((with_reducible refine sf_sb (by assumption) ?_)) | ((with_reducible refine sf_r ?_ ?_); (first | exact any | assumption | exact ⟨false, rfl⟩ | exact ⟨true, rfl⟩); assumption) | ((with_reducible refine sf_z ?_ ?_ ?_); (first | exact ⟨false, rfl⟩ | exact ⟨true, rfl⟩ | assumption); (first | exact any | exact ⟨false, rfl⟩ | exact ⟨true, rfl⟩ | assumption); assumption))
  | succ d ih =>
    intro t f τ hj hf hI
    obtain ⟨f, rfl⟩ : ∃ y, f = y + 1 := ⟨f - 1, by omega⟩
    have ht : t < s.2.2.1.length := by omega
    unfold f_Scribe_numberSymbols_247 f_Scribe_numberSymbols_291
    repeat' (first | (exact sf_r any (jSI_mono hI (by omega))) | (exact jsf_ns_260 h3 hF ht (fun τ hτ => ih _ _ τ (by omega) (by omega) hτ) 64 0 F _ rfl (by omega) hI) | exact absurd (show nI 0 = 0 from rfl) (by assumption) | exact absurd (show nI 1 = 0 by assumption) (by decide) | ((with_reducible refine sf_i (fun hc => ?_) (fun hc => ?_))) | ((with_reducible refine sf_gF h0 ?_ ?_ ?_ ?_ ?_); decide; decide; decide; decide) | ((with_reducible refine sf_gI ?_ ?_ ?_ ?_); (first | assumption | exact GS_o h0.1 (by decide) (by decide) | exact RRj_o h0 (by assumption) | exact RRj_o h0 (Or.inr (by assumption)) | exact OBq_o h0 (by assumption) | exact OBq_o h0 (Obt_q (by assumption)) | exact G_part h0.1 (by assumption) | exact Nmo_o (by assumption)); decide; decide) | ((with_reducible refine sf_gJ ?_ ?_ ?_ ?_); (first | assumption | exact GS_o h0.1 (by decide) (by decide) | exact RRj_o h0 (by assumption) | exact RRj_o h0 (Or.inr (by assumption)) | exact OBq_o h0 (by assumption) | exact OBq_o h0 (Obt_q (by assumption)) | exact G_part h0.1 (by assumption) | exact Nmo_o (by assumption)); decide; decide) | ((with_reducible refine sf_gN ?_ ?_ ?_ ?_); (first | assumption | exact GS_o h0.1 (by decide) (by decide) | exact RRj_o h0 (by assumption) | exact RRj_o h0 (Or.inr (by assumption)) | exact OBq_o h0 (by assumption) | exact OBq_o h0 (Obt_q (by assumption)) | exact G_part h0.1 (by assumption) | exact Nmo_o (by assumption)); decide; decide) | ((with_reducible refine jsf_gG h0 (by assumption) ?_ ?_ ?_ ?_ (by with_unfolding_all exact rfl) ?_); decide; decide; decide; decide) | ((with_reducible refine sf_o ?_ (fun l => ?_)); (first | assumption | exact GS_o h0.1 (by decide) (by decide) | exact RRj_o h0 (by assumption) | exact RRj_o h0 (Or.inr (by assumption)) | exact OBq_o h0 (by assumption) | exact OBq_o h0 (Obt_q (by assumption)) | exact G_part h0.1 (by assumption) | exact Nmo_o (by assumption))) | ((with_reducible refine sf_s ?_)) | ((with_reducible refine sf_sb (by assumption) ?_)) | ((with_reducible refine sf_r ?_ ?_); (first | exact any | assumption | exact ⟨false, rfl⟩ | exact ⟨true, rfl⟩); assumption) | ((with_reducible refine sf_z ?_ ?_ ?_); (first | exact ⟨false, rfl⟩ | exact ⟨true, rfl⟩ | assumption); (first | exact any | exact ⟨false, rfl⟩ | exact ⟨true, rfl⟩ | assumption); assumption))
theorem jsf_ns_200 (h3 : S3 sk L own τ0 fs s xs ST rn ws) (hF : 65540 < F) : ∀ (d j f : Nat) (τ : px_TT), j + d = 16 → d < f → SJ wq (some (4128 + j)) sk L τ0 τ → Sf sk L (SJ wq (some 8240) sk L τ0) Any (f_Scribe_numberSymbols_200 F c f 1713 (nI j) (cH sk L τ)) := by
  have h0 := h3.1.1.1
  have hT := S3_T h3
  have go : ∀ j τ, j ≤ 16 → SJ wq (some (4128 + j)) sk L τ0 τ → Sf sk L (SJ wq (some 8240) sk L τ0) Any (f_Scribe_numberSymbols_247 F c F 1713 (nI 0) (cH sk L τ)) := fun j τ hj hI => jsf_ns_247 h3 hF _ 0 F τ (Nat.zero_add _) (by omega) (jSI_mono hI (by omega))
  intro d
  induction d with
  | zero =>
    intro j f τ hj hf hI
    obtain ⟨f, rfl⟩ : ∃ y, f = y + 1 := ⟨f - 1, by omega⟩
    unfold f_Scribe_numberSymbols_200 f_Scribe_numberSymbols_245
    repeat' (first | (exact go j _ (by omega) hI) | (exact absurd (jwsc_le (j := j) h3 hI (by omega) (by omega)) (by assumption)) | exact absurd (show nI 0 = 0 from rfl) (by assumption) | exact absurd (show nI 1 = 0 by assumption) (by decide) | ((with_reducible refine sf_i (fun hc => ?_) (fun hc => ?_))) | ((with_reducible refine sf_gF h0 ?_ ?_ ?_ ?_ ?_); decide; decide; decide; decide) | ((with_reducible refine sf_gI ?_ ?_ ?_ ?_); (first | assumption | exact GS_o h0.1 (by decide) (by decide) | exact RRj_o h0 (by assumption) | exact RRj_o h0 (Or.inr (by assumption)) | exact OBq_o h0 (by assumption) | exact OBq_o h0 (Obt_q (by assumption)) | exact G_part h0.1 (by assumption) | exact Nmo_o (by assumption)); decide; decide) | ((with_reducible refine sf_gJ ?_ ?_ ?_ ?_); (first | assumption | exact GS_o h0.1 (by decide) (by decide) | exact RRj_o h0 (by assumption) | exact RRj_o h0 (Or.inr (by assumption)) | exact OBq_o h0 (by assumption) | exact OBq_o h0 (Obt_q (by assumption)) | exact G_part h0.1 (by assumption) | exact Nmo_o (by assumption)); decide; decide) | ((with_reducible refine sf_gN ?_ ?_ ?_ ?_); (first | assumption | exact GS_o h0.1 (by decide) (by decide) | exact RRj_o h0 (by assumption) | exact RRj_o h0 (Or.inr (by assumption)) | exact OBq_o h0 (by assumption) | exact OBq_o h0 (Obt_q (by assumption)) | exact G_part h0.1 (by assumption) | exact Nmo_o (by assumption)); decide; decide) | ((with_reducible refine jsf_gG h0 (by assumption) ?_ ?_ ?_ ?_ (by with_unfolding_all exact rfl) ?_); decide; decide; decide; decide) | ((with_reducible refine sf_o ?_ (fun l => ?_)); (first | assumption | exact GS_o h0.1 (by decide) (by decide) | exact RRj_o h0 (by assumption) | exact RRj_o h0 (Or.inr (by assumption)) | exact OBq_o h0 (by assumption) | exact OBq_o h0 (Obt_q (by assumption)) | exact G_part h0.1 (by assumption) | exact Nmo_o (by assumption))) | ((with_reducible refine sf_s ?_)) | ((with_reducible refine sf_sb (by assumption) ?_)) | ((with_reducible refine sf_r ?_ ?_); (first | exact any | assumption | exact ⟨false, rfl⟩ | exact ⟨true, rfl⟩); assumption) | ((with_reducible refine sf_z ?_ ?_ ?_); (first | exact ⟨false, rfl⟩ | exact ⟨true, rfl⟩ | assumption); (first | exact any | exact ⟨false, rfl⟩ | exact ⟨true, rfl⟩ | assumption); assumption))
  | succ d ih =>
    intro j f τ hj hf hI
    obtain ⟨f, rfl⟩ : ∃ y, f = y + 1 := ⟨f - 1, by omega⟩
    unfold f_Scribe_numberSymbols_200 f_Scribe_numberSymbols_245
    rw [nI_add]
    repeat' (first | (exact go j _ (by omega) hI) | ((with_reducible refine jsx_wsAt h3 (by assumption) ?_ ?_ (fun p hp => ?_)); assumption; omega) | ((with_reducible refine jsx_find h3 hF (by assumption) ?_ ?_ (fun p hp => ?_)); assumption) | ((with_reducible refine sw_x (jsf_listO hI) (fun v τ hv hi => ?_))) | ((with_reducible refine sw_x (jsf_listN h0 hF ?_ ?_ hI) (fun v τ hv hi => ?_)); omega; assumption) | (exact ih _ _ _ (by omega) (by omega) (jSI_mono (by assumption) (by omega))) | exact absurd (show nI 0 = 0 from rfl) (by assumption) | exact absurd (show nI 1 = 0 by assumption) (by decide) | ((with_reducible refine sf_i (fun hc => ?_) (fun hc => ?_))) | ((with_reducible refine sf_gF h0 ?_ ?_ ?_ ?_ ?_); decide; decide; decide; decide) | ((with_reducible refine sf_gI ?_ ?_ ?_ ?_); (first | assumption | exact GS_o h0.1 (by decide) (by decide) | exact RRj_o h0 (by assumption) | exact RRj_o h0 (Or.inr (by assumption)) | exact OBq_o h0 (by assumption) | exact OBq_o h0 (Obt_q (by assumption)) | exact G_part h0.1 (by assumption) | exact Nmo_o (by assumption)); decide; decide) | ((with_reducible refine sf_gJ ?_ ?_ ?_ ?_); (first | assumption | exact GS_o h0.1 (by decide) (by decide) | exact RRj_o h0 (by assumption) | exact RRj_o h0 (Or.inr (by assumption)) | exact OBq_o h0 (by assumption) | exact OBq_o h0 (Obt_q (by assumption)) | exact G_part h0.1 (by assumption) | exact Nmo_o (by assumption)); decide; decide) | ((with_reducible refine sf_gN ?_ ?_ ?_ ?_); (first | assumption | exact GS_o h0.1 (by decide) (by decide) | exact RRj_o h0 (by assumption) | exact RRj_o h0 (Or.inr (by assumption)) | exact OBq_o h0 (by assumption) | exact OBq_o h0 (Obt_q (by assumption)) | exact G_part h0.1 (by assumption) | exact Nmo_o (by assumption)); decide; decide) | ((with_reducible refine jsf_gG h0 (by assumption) ?_ ?_ ?_ ?_ (by with_unfolding_all exact rfl) ?_); decide; decide; decide; decide) | ((with_reducible refine sf_o ?_ (fun l => ?_)); (first | assumption | exact GS_o h0.1 (by decide) (by decide) | exact RRj_o h0 (by assumption) | exact RRj_o h0 (Or.inr (by assumption)) | exact OBq_o h0 (by assumption) | exact OBq_o h0 (Obt_q (by assumption)) | exact G_part h0.1 (by assumption) | exact Nmo_o (by assumption))) | ((with_reducible refine sf_s ?_)) | ((with_reducible refine sf_sb (by assumption) ?_)) | ((with_reducible refine sf_r ?_ ?_); (first | exact any | assumption | exact ⟨false, rfl⟩ | exact ⟨true, rfl⟩); assumption) | ((with_reducible refine sf_z ?_ ?_ ?_); (first | exact ⟨false, rfl⟩ | exact ⟨true, rfl⟩ | assumption); (first | exact any | exact ⟨false, rfl⟩ | exact ⟨true, rfl⟩ | assumption); assumption))
theorem jsf_ns_169 (h3 : S3 sk L own τ0 fs s xs ST rn ws) (hF : 65540 < F) : ∀ (d j f : Nat) (τ : px_TT), j + d = 4128 → d < f → SJ wq (some j) sk L τ0 τ → Sf sk L (SJ wq (some 8240) sk L τ0) Any (f_Scribe_numberSymbols_169 F c f 1713 (nI j) (cH sk L τ)) := by
  have h0 := h3.1.1.1
  have h2 := h3.1
  have hT := S3_T h3
  have go : ∀ j τ, j ≤ 4128 → SJ wq (some j) sk L τ0 τ → Sf sk L (SJ wq (some 8240) sk L τ0) Any (f_Scribe_numberSymbols_200 F c F 1713 (nI 0) (cH sk L τ)) := fun j τ hj hI => jsf_ns_200 h3 hF 16 0 F τ rfl (by omega) (jSI_mono hI (by omega))
  intro d
  induction d with
  | zero =>
    intro j f τ hj hf hI
    obtain ⟨f, rfl⟩ : ∃ y, f = y + 1 := ⟨f - 1, by omega⟩
    unfold f_Scribe_numberSymbols_169 f_Scribe_numberSymbols_198
    repeat' (first | (exact go j _ (by omega) hI) | (exact absurd (jord_le (j := j) h2 hI (by omega) (by omega)) (by assumption)) | exact absurd (show nI 0 = 0 from rfl) (by assumption) | exact absurd (show nI 1 = 0 by assumption) (by decide) | ((with_reducible refine sf_i (fun hc => ?_) (fun hc => ?_))) | ((with_reducible refine sf_gF h0 ?_ ?_ ?_ ?_ ?_); decide; decide; decide; decide) | ((with_reducible refine sf_gI ?_ ?_ ?_ ?_); (first | assumption | exact GS_o h0.1 (by decide) (by decide) | exact RRj_o h0 (by assumption) | exact RRj_o h0 (Or.inr (by assumption)) | exact OBq_o h0 (by assumption) | exact OBq_o h0 (Obt_q (by assumption)) | exact G_part h0.1 (by assumption) | exact Nmo_o (by assumption)); decide; decide) | ((with_reducible refine sf_gJ ?_ ?_ ?_ ?_); (first | assumption | exact GS_o h0.1 (by decide) (by decide) | exact RRj_o h0 (by assumption) | exact RRj_o h0 (Or.inr (by assumption)) | exact OBq_o h0 (by assumption) | exact OBq_o h0 (Obt_q (by assumption)) | exact G_part h0.1 (by assumption) | exact Nmo_o (by assumption)); decide; decide) | ((with_reducible refine sf_gN ?_ ?_ ?_ ?_); (first | assumption | exact GS_o h0.1 (by decide) (by decide) | exact RRj_o h0 (by assumption) | exact RRj_o h0 (Or.inr (by assumption)) | exact OBq_o h0 (by assumption) | exact OBq_o h0 (Obt_q (by assumption)) | exact G_part h0.1 (by assumption) | exact Nmo_o (by assumption)); decide; decide) | ((with_reducible refine jsf_gG h0 (by assumption) ?_ ?_ ?_ ?_ (by with_unfolding_all exact rfl) ?_); decide; decide; decide; decide) | ((with_reducible refine sf_o ?_ (fun l => ?_)); (first | assumption | exact GS_o h0.1 (by decide) (by decide) | exact RRj_o h0 (by assumption) | exact RRj_o h0 (Or.inr (by assumption)) | exact OBq_o h0 (by assumption) | exact OBq_o h0 (Obt_q (by assumption)) | exact G_part h0.1 (by assumption) | exact Nmo_o (by assumption))) | ((with_reducible refine sf_s ?_)) | ((with_reducible refine sf_sb (by assumption) ?_)) | ((with_reducible refine sf_r ?_ ?_); (first | exact any | assumption | exact ⟨false, rfl⟩ | exact ⟨true, rfl⟩); assumption) | ((with_reducible refine sf_z ?_ ?_ ?_); (first | exact ⟨false, rfl⟩ | exact ⟨true, rfl⟩ | assumption); (first | exact any | exact ⟨false, rfl⟩ | exact ⟨true, rfl⟩ | assumption); assumption))
  | succ d ih =>
    intro j f τ hj hf hI
    obtain ⟨f, rfl⟩ : ∃ y, f = y + 1 := ⟨f - 1, by omega⟩
    unfold f_Scribe_numberSymbols_169 f_Scribe_numberSymbols_198
    rw [nI_add]
    repeat' (first | (exact go j _ (by omega) hI) | ((with_reducible refine sw_x (jsf_listN h0 hF ?_ ?_ hI) (fun v τ hv hi => ?_)); omega; assumption) | (exact ih _ _ _ (by omega) (by omega) (jSI_mono (by assumption) (by omega))) | exact absurd (show nI 0 = 0 from rfl) (by assumption) | exact absurd (show nI 1 = 0 by assumption) (by decide) | ((with_reducible refine sf_i (fun hc => ?_) (fun hc => ?_))) | ((with_reducible refine sf_gF h0 ?_ ?_ ?_ ?_ ?_); decide; decide; decide; decide) | ((with_reducible refine sf_gI ?_ ?_ ?_ ?_); (first | assumption | exact GS_o h0.1 (by decide) (by decide) | exact RRj_o h0 (by assumption) | exact RRj_o h0 (Or.inr (by assumption)) | exact OBq_o h0 (by assumption) | exact OBq_o h0 (Obt_q (by assumption)) | exact G_part h0.1 (by assumption) | exact Nmo_o (by assumption)); decide; decide) | ((with_reducible refine sf_gJ ?_ ?_ ?_ ?_); (first | assumption | exact GS_o h0.1 (by decide) (by decide) | exact RRj_o h0 (by assumption) | exact RRj_o h0 (Or.inr (by assumption)) | exact OBq_o h0 (by assumption) | exact OBq_o h0 (Obt_q (by assumption)) | exact G_part h0.1 (by assumption) | exact Nmo_o (by assumption)); decide; decide) | ((with_reducible refine sf_gN ?_ ?_ ?_ ?_); (first | assumption | exact GS_o h0.1 (by decide) (by decide) | exact RRj_o h0 (by assumption) | exact RRj_o h0 (Or.inr (by assumption)) | exact OBq_o h0 (by assumption) | exact OBq_o h0 (Obt_q (by assumption)) | exact G_part h0.1 (by assumption) | exact Nmo_o (by assumption)); decide; decide) | ((with_reducible refine jsf_gG h0 (by assumption) ?_ ?_ ?_ ?_ (by with_unfolding_all exact rfl) ?_); decide; decide; decide; decide) | ((with_reducible refine sf_o ?_ (fun l => ?_)); (first | assumption | exact GS_o h0.1 (by decide) (by decide) | exact RRj_o h0 (by assumption) | exact RRj_o h0 (Or.inr (by assumption)) | exact OBq_o h0 (by assumption) | exact OBq_o h0 (Obt_q (by assumption)) | exact G_part h0.1 (by assumption) | exact Nmo_o (by assumption))) | ((with_reducible refine sf_s ?_)) | ((with_reducible refine sf_sb (by assumption) ?_)) | ((with_reducible refine sf_r ?_ ?_); (first | exact any | assumption | exact ⟨false, rfl⟩ | exact ⟨true, rfl⟩); assumption) | ((with_reducible refine sf_z ?_ ?_ ?_); (first | exact ⟨false, rfl⟩ | exact ⟨true, rfl⟩ | assumption); (first | exact any | exact ⟨false, rfl⟩ | exact ⟨true, rfl⟩ | assumption); assumption) | ((with_reducible refine jsx_defAt h2 (by assumption) ?_ ?_ (fun p hp => ?_)); assumption; omega))
theorem jsf_ns_132 (h3 : S3 sk L own τ0 fs s xs ST rn ws) (hF : 65540 < F) : ∀ (d j f : Nat) (τ : px_TT), j + d = 4128 → d < f → SJ wq (some 0) sk L τ0 τ → Sf sk L (SJ wq (some 8240) sk L τ0) Any (f_Scribe_numberSymbols_132 F c f 1713 (nI j) (cH sk L τ)) := by
  have h0 := h3.1.1.1
  have go : ∀ τ, SJ wq (some 0) sk L τ0 τ → Sf sk L (SJ wq (some 8240) sk L τ0) Any (f_Scribe_numberSymbols_169 F c F 1713 (nI 0) (cH sk L τ)) := fun τ hI => jsf_ns_169 h3 hF 4128 0 F τ rfl (by omega) hI
  intro d
  induction d with
  | zero =>
    intro j f τ hj hf hI
    obtain ⟨f, rfl⟩ : ∃ y, f = y + 1 := ⟨f - 1, by omega⟩
    unfold f_Scribe_numberSymbols_132 f_Scribe_numberSymbols_167
    repeat' (first | (exact go _ hI) | (exact absurd (jnmc_le (j := j) h3 hI (by omega) (by omega)) (by assumption)) | exact absurd (show nI 0 = 0 from rfl) (by assumption) | exact absurd (show nI 1 = 0 by assumption) (by decide) | ((with_reducible refine sf_i (fun hc => ?_) (fun hc => ?_))) | ((with_reducible refine sf_gF h0 ?_ ?_ ?_ ?_ ?_); decide; decide; decide; decide) | ((with_reducible refine sf_gI ?_ ?_ ?_ ?_); (first | assumption | exact GS_o h0.1 (by decide) (by decide) | exact RRj_o h0 (by assumption) | exact RRj_o h0 (Or.inr (by assumption)) | exact OBq_o h0 (by assumption) | exact OBq_o h0 (Obt_q (by assumption)) | exact G_part h0.1 (by assumption) | exact Nmo_o (by assumption)); decide; decide) | ((with_reducible refine sf_gJ ?_ ?_ ?_ ?_); (first | assumption | exact GS_o h0.1 (by decide) (by decide) | exact RRj_o h0 (by assumption) | exact RRj_o h0 (Or.inr (by assumption)) | exact OBq_o h0 (by assumption) | exact OBq_o h0 (Obt_q (by assumption)) | exact G_part h0.1 (by assumption) | exact Nmo_o (by assumption)); decide; decide) | ((with_reducible refine sf_gN ?_ ?_ ?_ ?_); (first | assumption | exact GS_o h0.1 (by decide) (by decide) | exact RRj_o h0 (by assumption) | exact RRj_o h0 (Or.inr (by assumption)) | exact OBq_o h0 (by assumption) | exact OBq_o h0 (Obt_q (by assumption)) | exact G_part h0.1 (by assumption) | exact Nmo_o (by assumption)); decide; decide) | ((with_reducible refine jsf_gG h0 (by assumption) ?_ ?_ ?_ ?_ (by with_unfolding_all exact rfl) ?_); decide; decide; decide; decide) | ((with_reducible refine sf_o ?_ (fun l => ?_)); (first | assumption | exact GS_o h0.1 (by decide) (by decide) | exact RRj_o h0 (by assumption) | exact RRj_o h0 (Or.inr (by assumption)) | exact OBq_o h0 (by assumption) | exact OBq_o h0 (Obt_q (by assumption)) | exact G_part h0.1 (by assumption) | exact Nmo_o (by assumption))) | ((with_reducible refine sf_s ?_)) | ((with_reducible refine sf_sb (by assumption) ?_)) | ((with_reducible refine sf_r ?_ ?_); (first | exact any | assumption | exact ⟨false, rfl⟩ | exact ⟨true, rfl⟩); assumption) | ((with_reducible refine sf_z ?_ ?_ ?_); (first | exact ⟨false, rfl⟩ | exact ⟨true, rfl⟩ | assumption); (first | exact any | exact ⟨false, rfl⟩ | exact ⟨true, rfl⟩ | assumption); assumption))
  | succ d ih =>
    intro j f τ hj hf hI
    obtain ⟨f, rfl⟩ : ∃ y, f = y + 1 := ⟨f - 1, by omega⟩
    unfold f_Scribe_numberSymbols_132 f_Scribe_numberSymbols_167
    rw [nI_add]
    repeat' (first | (exact go _ hI) | ((with_reducible refine jsx_nmAt h3 (by assumption) ?_ ?_ (fun p hp => ?_)); assumption; omega) | ((with_reducible refine sw_pI (I1 := SJ wq (some 0) sk L τ0) ?_ ?_ ?_ ?_ (fun τ hi => ?_)); exact Nmo_o hp; decide; decide; exact SJ_tI hI (Or.inr (Or.inr (Or.inr (Or.inr (Or.inl ⟨hp.1, rfl⟩)))))) | (exact ih _ _ _ (by omega) (by omega) (by assumption)) | exact absurd (show nI 0 = 0 from rfl) (by assumption) | exact absurd (show nI 1 = 0 by assumption) (by decide) | ((with_reducible refine sf_i (fun hc => ?_) (fun hc => ?_))) | ((with_reducible refine sf_gF h0 ?_ ?_ ?_ ?_ ?_); decide; decide; decide; decide) | ((with_reducible refine sf_gI ?_ ?_ ?_ ?_); (first | assumption | exact GS_o h0.1 (by decide) (by decide) | exact RRj_o h0 (by assumption) | exact RRj_o h0 (Or.inr (by assumption)) | exact OBq_o h0 (by assumption) | exact OBq_o h0 (Obt_q (by assumption)) | exact G_part h0.1 (by assumption) | exact Nmo_o (by assumption)); decide; decide) | ((with_reducible refine sf_gJ ?_ ?_ ?_ ?_); (first | assumption | exact GS_o h0.1 (by decide) (by decide) | exact RRj_o h0 (by assumption) | exact RRj_o h0 (Or.inr (by assumption)) | exact OBq_o h0 (by assumption) | exact OBq_o h0 (Obt_q (by assumption)) | exact G_part h0.1 (by assumption) | exact Nmo_o (by assumption)); decide; decide) | ((with_reducible refine sf_gN ?_ ?_ ?_ ?_); (first | assumption | exact GS_o h0.1 (by decide) (by decide) | exact RRj_o h0 (by assumption) | exact RRj_o h0 (Or.inr (by assumption)) | exact OBq_o h0 (by assumption) | exact OBq_o h0 (Obt_q (by assumption)) | exact G_part h0.1 (by assumption) | exact Nmo_o (by assumption)); decide; decide) | ((with_reducible refine jsf_gG h0 (by assumption) ?_ ?_ ?_ ?_ (by with_unfolding_all exact rfl) ?_); decide; decide; decide; decide) | ((with_reducible refine sf_o ?_ (fun l => ?_)); (first | assumption | exact GS_o h0.1 (by decide) (by decide) | exact RRj_o h0 (by assumption) | exact RRj_o h0 (Or.inr (by assumption)) | exact OBq_o h0 (by assumption) | exact OBq_o h0 (Obt_q (by assumption)) | exact G_part h0.1 (by assumption) | exact Nmo_o (by assumption))) | ((with_reducible refine sf_s ?_)) | ((with_reducible refine sf_sb (by assumption) ?_)) | ((with_reducible refine sf_r ?_ ?_); (first | exact any | assumption | exact ⟨false, rfl⟩ | exact ⟨true, rfl⟩); assumption) | ((with_reducible refine sf_z ?_ ?_ ?_); (first | exact ⟨false, rfl⟩ | exact ⟨true, rfl⟩ | assumption); (first | exact any | exact ⟨false, rfl⟩ | exact ⟨true, rfl⟩ | assumption); assumption))
theorem jsf_ns_27 {k4 : Nat → Int32 → Int32 → px_H → Option (Int32 × px_H)} (h3 : S3 sk L own τ0 fs s xs ST rn ws) (hF : 65540 < F) (ht : t < s.2.2.1.length) (hq : Obt τ0 s t q) (hk : ∀ a1 τ, SJ wq none sk L τ0 τ → Sf sk L (SJ wq (some 8240) sk L τ0) Any (k4 1713 a1 (nI (t + 1)) (cH sk L τ))) : ∀ (d j f : Nat) (a1 : Int32) (τ : px_TT), j + d = 64 → d < f → SJ wq none sk L τ0 τ → Sf sk L (SJ wq (some 8240) sk L τ0) Any (f_Scribe_numberSymbols_27 F c k4 f 1713 a1 (nI t) (some q) (nI j) (cH sk L τ)) := by
  have h0 := h3.1.1.1
  have hT := S3_T h3
  intro d
  induction d with
  | zero =>
    intro j f a1 τ hj hf hI
    obtain ⟨f, rfl⟩ : ∃ y, f = y + 1 := ⟨f - 1, by omega⟩
    unfold f_Scribe_numberSymbols_27 f_Scribe_numberSymbols_114
    rw [nI_add]
    repeat' (first | (exact hk _ _ (by assumption)) | (exact absurd (jsyt_le (j := j) hq hI (by omega) (by omega)) (by assumption)) | exact absurd (show nI 0 = 0 from rfl) (by assumption) | exact absurd (show nI 1 = 0 by assumption) (by decide) | ((with_reducible refine sf_i (fun hc => ?_) (fun hc => ?_))) | ((with_reducible refine sf_gF h0 ?_ ?_ ?_ ?_ ?_); decide; decide; decide; decide) | ((with_reducible refine sf_gI ?_ ?_ ?_ ?_); (first | assumption | exact GS_o h0.1 (by decide) (by decide) | exact RRj_o h0 (by assumption) | exact RRj_o h0 (Or.inr (by assumption)) | exact OBq_o h0 (by assumption) | exact OBq_o h0 (Obt_q (by assumption)) | exact G_part h0.1 (by assumption) | exact Nmo_o (by assumption)); decide; decide) | ((with_reducible refine sf_gJ ?_ ?_ ?_ ?_); (first | assumption | exact GS_o h0.1 (by decide) (by decide) | exact RRj_o h0 (by assumption) | exact RRj_o h0 (Or.inr (by assumption)) | exact OBq_o h0 (by assumption) | exact OBq_o h0 (Obt_q (by assumption)) | exact G_part h0.1 (by assumption) | exact Nmo_o (by assumption)); decide; decide) | ((with_reducible refine sf_gN ?_ ?_ ?_ ?_); (first | assumption | exact GS_o h0.1 (by decide) (by decide) | exact RRj_o h0 (by assumption) | exact RRj_o h0 (Or.inr (by assumption)) | exact OBq_o h0 (by assumption) | exact OBq_o h0 (Obt_q (by assumption)) | exact G_part h0.1 (by assumption) | exact Nmo_o (by assumption)); decide; decide) | ((with_reducible refine jsf_gG h0 (by assumption) ?_ ?_ ?_ ?_ (by with_unfolding_all exact rfl) ?_); decide; decide; decide; decide) | ((with_reducible refine sf_o ?_ (fun l => ?_)); (first | assumption | exact GS_o h0.1 (by decide) (by decide) | exact RRj_o h0 (by assumption) | exact RRj_o h0 (Or.inr (by assumption)) | exact OBq_o h0 (by assumption) | exact OBq_o h0 (Obt_q (by assumption)) | exact G_part h0.1 (by assumption) | exact Nmo_o (by assumption))) | ((with_reducible refine sf_s ?_)) | ((with_reducible refine sf_sb (by assumption) ?_)) | ((with_reducible refine sf_r ?_ ?_); (first | exact any | assumption | exact ⟨false, rfl⟩ | exact ⟨true, rfl⟩); assumption) | ((with_reducible refine sf_z ?_ ?_ ?_); (first | exact ⟨false, rfl⟩ | exact ⟨true, rfl⟩ | assumption); (first | exact any | exact ⟨false, rfl⟩ | exact ⟨true, rfl⟩ | assumption); assumption))
  | succ d ih =>
    intro j f a1 τ hj hf hI
    obtain ⟨f, rfl⟩ : ∃ y, f = y + 1 := ⟨f - 1, by omega⟩
    have hx : t * 64 + j < 4096 := by omega
    unfold f_Scribe_numberSymbols_27 f_Scribe_numberSymbols_114 f_Scribe_numberSymbols_61 f_Scribe_numberSymbols_88 f_Scribe_numberSymbols_89 f_Scribe_numberSymbols_105 f_Scribe_numberSymbols_106
    rw [show nI t * nI 64 = nI (t * 64) from (Int32.ofNat_mul t 64).symm, nI_add, nI_add, nI_add]
    repeat' (first | (exact hk _ _ (by assumption)) | ((with_reducible refine jsw_sI h0 (by assumption) ?_ (fun τ hi => ?_)); exact hx) | (exact ih _ _ _ _ (by omega) (by omega) (by assumption)) | exact absurd (show nI 0 = 0 from rfl) (by assumption) | exact absurd (show nI 1 = 0 by assumption) (by decide) | ((with_reducible refine sf_i (fun hc => ?_) (fun hc => ?_))) | ((with_reducible refine sf_gF h0 ?_ ?_ ?_ ?_ ?_); decide; decide; decide; decide) | ((with_reducible refine sf_gI ?_ ?_ ?_ ?_); (first | assumption | exact GS_o h0.1 (by decide) (by decide) | exact RRj_o h0 (by assumption) | exact RRj_o h0 (Or.inr (by assumption)) | exact OBq_o h0 (by assumption) | exact OBq_o h0 (Obt_q (by assumption)) | exact G_part h0.1 (by assumption) | exact Nmo_o (by assumption)); decide; decide) | ((with_reducible refine sf_gJ ?_ ?_ ?_ ?_); (first | assumption | exact GS_o h0.1 (by decide) (by decide) | exact RRj_o h0 (by assumption) | exact RRj_o h0 (Or.inr (by assumption)) | exact OBq_o h0 (by assumption) | exact OBq_o h0 (Obt_q (by assumption)) | exact G_part h0.1 (by assumption) | exact Nmo_o (by assumption)); decide; decide) | ((with_reducible refine sf_gN ?_ ?_ ?_ ?_); (first | assumption | exact GS_o h0.1 (by decide) (by decide) | exact RRj_o h0 (by assumption) | exact RRj_o h0 (Or.inr (by assumption)) | exact OBq_o h0 (by assumption) | exact OBq_o h0 (Obt_q (by assumption)) | exact G_part h0.1 (by assumption) | exact Nmo_o (by assumption)); decide; decide) | ((with_reducible refine jsf_gG h0 (by assumption) ?_ ?_ ?_ ?_ (by with_unfolding_all exact rfl) ?_); decide; decide; decide; decide) | ((with_reducible refine sf_o ?_ (fun l => ?_)); (first | assumption | exact GS_o h0.1 (by decide) (by decide) | exact RRj_o h0 (by assumption) | exact RRj_o h0 (Or.inr (by assumption)) | exact OBq_o h0 (by assumption) | exact OBq_o h0 (Obt_q (by assumption)) | exact G_part h0.1 (by assumption) | exact Nmo_o (by assumption))) | ((with_reducible refine sf_s ?_)) | ((with_reducible refine sf_sb (by assumption) ?_)) | ((with_reducible refine sf_r ?_ ?_); (first | exact any | assumption | exact ⟨false, rfl⟩ | exact ⟨true, rfl⟩); assumption) | ((with_reducible refine sf_z ?_ ?_ ?_); (first | exact ⟨false, rfl⟩ | exact ⟨true, rfl⟩ | assumption); (first | exact any | exact ⟨false, rfl⟩ | exact ⟨true, rfl⟩ | assumption); assumption) | ((with_reducible refine jsx_name h3 (by assumption) ?_ ?_ (fun p hp => ?_)); assumption) | (dsimp only))
theorem jsf_ns_4 (h3 : S3 sk L own τ0 fs s xs ST rn ws) (hF : 65540 < F) : ∀ (d t f : Nat) (a1 : Int32) (τ : px_TT), t + d = s.2.2.1.length → d < f → SJ wq none sk L τ0 τ → Sf sk L (SJ wq (some 8240) sk L τ0) Any (f_Scribe_numberSymbols_4 F c f 1713 a1 (nI t) (cH sk L τ)) := by
  have h0 := h3.1.1.1
  have hT := S3_T h3
  intro d
  induction d with
  | zero =>
    intro t f a1 τ hj hf hI
    obtain ⟨f, rfl⟩ : ∃ y, f = y + 1 := ⟨f - 1, by omega⟩
    unfold f_Scribe_numberSymbols_4 f_Scribe_numberSymbols_120
    repeat' (first | (exact absurd (jtkn_le (j := t) h3 hI (by omega) (by omega)) (by assumption)) | ((with_reducible refine sw_pI (I1 := SJ wq none sk L τ0) ?_ ?_ ?_ ?_ (fun τ hi => ?_)); exact GS_o h0.1 (by decide) (by decide); decide; decide; exact SJ_tI (by assumption) (by omega)) | ((with_reducible refine sw_pI (I1 := SJ wq (some 0) sk L τ0) ?_ ?_ ?_ ?_ (fun τ hi => ?_)); exact GS_o h0.1 (by decide) (by decide); decide; decide; exact jSI_0 (by assumption)) | (exact jsf_ns_132 h3 hF 4128 0 F _ rfl (by omega) (by assumption)) | exact absurd (show nI 0 = 0 from rfl) (by assumption) | exact absurd (show nI 1 = 0 by assumption) (by decide) | ((with_reducible refine sf_i (fun hc => ?_) (fun hc => ?_))) | ((with_reducible refine sf_gF h0 ?_ ?_ ?_ ?_ ?_); decide; decide; decide; decide) | ((with_reducible refine sf_gI ?_ ?_ ?_ ?_); (first | assumption | exact GS_o h0.1 (by decide) (by decide) | exact RRj_o h0 (by assumption) | exact RRj_o h0 (Or.inr (by assumption)) | exact OBq_o h0 (by assumption) | exact OBq_o h0 (Obt_q (by assumption)) | exact G_part h0.1 (by assumption) | exact Nmo_o (by assumption)); decide; decide) | ((with_reducible refine sf_gJ ?_ ?_ ?_ ?_); (first | assumption | exact GS_o h0.1 (by decide) (by decide) | exact RRj_o h0 (by assumption) | exact RRj_o h0 (Or.inr (by assumption)) | exact OBq_o h0 (by assumption) | exact OBq_o h0 (Obt_q (by assumption)) | exact G_part h0.1 (by assumption) | exact Nmo_o (by assumption)); decide; decide) | ((with_reducible refine sf_gN ?_ ?_ ?_ ?_); (first | assumption | exact GS_o h0.1 (by decide) (by decide) | exact RRj_o h0 (by assumption) | exact RRj_o h0 (Or.inr (by assumption)) | exact OBq_o h0 (by assumption) | exact OBq_o h0 (Obt_q (by assumption)) | exact G_part h0.1 (by assumption) | exact Nmo_o (by assumption)); decide; decide) | ((with_reducible refine jsf_gG h0 (by assumption) ?_ ?_ ?_ ?_ (by with_unfolding_all exact rfl) ?_); decide; decide; decide; decide) | ((with_reducible refine sf_o ?_ (fun l => ?_)); (first | assumption | exact GS_o h0.1 (by decide) (by decide) | exact RRj_o h0 (by assumption) | exact RRj_o h0 (Or.inr (by assumption)) | exact OBq_o h0 (by assumption) | exact OBq_o h0 (Obt_q (by assumption)) | exact G_part h0.1 (by assumption) | exact Nmo_o (by assumption))) | ((with_reducible refine sf_s ?_)) | ((with_reducible refine sf_sb (by assumption) ?_)) | ((with_reducible refine sf_r ?_ ?_); (first | exact any | assumption | exact ⟨false, rfl⟩ | exact ⟨true, rfl⟩); assumption) | ((with_reducible refine sf_z ?_ ?_ ?_); (first | exact ⟨false, rfl⟩ | exact ⟨true, rfl⟩ | assumption); (first | exact any | exact ⟨false, rfl⟩ | exact ⟨true, rfl⟩ | assumption); assumption))
  | succ d ih =>
    intro t f a1 τ hj hf hI
    obtain ⟨f, rfl⟩ : ∃ y, f = y + 1 := ⟨f - 1, by omega⟩
    have ht : t < s.2.2.1.length := by omega
    unfold f_Scribe_numberSymbols_4 f_Scribe_numberSymbols_120
    repeat' (first | ((with_reducible refine sw_pI (I1 := SJ wq none sk L τ0) ?_ ?_ ?_ ?_ (fun τ hi => ?_)); exact GS_o h0.1 (by decide) (by decide); decide; decide; exact SJ_tI (by assumption) (by omega)) | ((with_reducible refine sw_pI (I1 := SJ wq (some 0) sk L τ0) ?_ ?_ ?_ ?_ (fun τ hi => ?_)); exact GS_o h0.1 (by decide) (by decide); decide; decide; exact jSI_0 (by assumption)) | (exact jsf_ns_132 h3 hF 4128 0 F _ rfl (by omega) (by assumption)) | (exact jsf_ns_27 h3 hF ht (by assumption) (fun a1 τ hτ => ih _ _ _ τ (by omega) (by omega) hτ) 64 0 F _ _ rfl (by omega) (by assumption)) | exact absurd (show nI 0 = 0 from rfl) (by assumption) | exact absurd (show nI 1 = 0 by assumption) (by decide) | ((with_reducible refine sf_i (fun hc => ?_) (fun hc => ?_))) | ((with_reducible refine sf_gF h0 ?_ ?_ ?_ ?_ ?_); decide; decide; decide; decide) | ((with_reducible refine sf_gI ?_ ?_ ?_ ?_); (first | assumption | exact GS_o h0.1 (by decide) (by decide) | exact RRj_o h0 (by assumption) | exact RRj_o h0 (Or.inr (by assumption)) | exact OBq_o h0 (by assumption) | exact OBq_o h0 (Obt_q (by assumption)) | exact G_part h0.1 (by assumption) | exact Nmo_o (by assumption)); decide; decide) | ((with_reducible refine sf_gJ ?_ ?_ ?_ ?_); (first | assumption | exact GS_o h0.1 (by decide) (by decide) | exact RRj_o h0 (by assumption) | exact RRj_o h0 (Or.inr (by assumption)) | exact OBq_o h0 (by assumption) | exact OBq_o h0 (Obt_q (by assumption)) | exact G_part h0.1 (by assumption) | exact Nmo_o (by assumption)); decide; decide) | ((with_reducible refine sf_gN ?_ ?_ ?_ ?_); (first | assumption | exact GS_o h0.1 (by decide) (by decide) | exact RRj_o h0 (by assumption) | exact RRj_o h0 (Or.inr (by assumption)) | exact OBq_o h0 (by assumption) | exact OBq_o h0 (Obt_q (by assumption)) | exact G_part h0.1 (by assumption) | exact Nmo_o (by assumption)); decide; decide) | ((with_reducible refine jsf_gG h0 (by assumption) ?_ ?_ ?_ ?_ (by with_unfolding_all exact rfl) ?_); decide; decide; decide; decide) | ((with_reducible refine sf_o ?_ (fun l => ?_)); (first | assumption | exact GS_o h0.1 (by decide) (by decide) | exact RRj_o h0 (by assumption) | exact RRj_o h0 (Or.inr (by assumption)) | exact OBq_o h0 (by assumption) | exact OBq_o h0 (Obt_q (by assumption)) | exact G_part h0.1 (by assumption) | exact Nmo_o (by assumption))) | ((with_reducible refine sf_s ?_)) | ((with_reducible refine sf_sb (by assumption) ?_)) | ((with_reducible refine sf_r ?_ ?_); (first | exact any | assumption | exact ⟨false, rfl⟩ | exact ⟨true, rfl⟩); assumption) | ((with_reducible refine sf_z ?_ ?_ ?_); (first | exact ⟨false, rfl⟩ | exact ⟨true, rfl⟩ | assumption); (first | exact any | exact ⟨false, rfl⟩ | exact ⟨true, rfl⟩ | assumption); assumption) | ((with_reducible refine jsx_obj h3 (by assumption) ?_ (fun q hq => ?_)); assumption))
theorem jsf_nsyms (h3 : S3 sk L own τ0 fs s xs ST rn ws) (hF : 65540 < F) (hI : SJ wq zb sk L τ0 τ) : Sf sk L (SJ wq (some 8240) sk L τ0) Any (f_Scribe_numberSymbols F c 1713 (cH sk L τ)) := by
  have hT := S3_T h3
  exact jsf_ns_4 h3 hF _ 0 F _ _ (Nat.zero_add _) (by omega) (jSI_none hI)
end CMOj
end
