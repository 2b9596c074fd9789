/-! the class merges: what stands there after its link, and the readers (steps spelled out by sf/pp.py) -/
def S3 (sk : Nat → Nat × Nat × Nat) (L : Nat) (own : Nat → Nat × Nat) (τ0 : px_TT) (fs : px_FS) (s : px_TK) (xs : px_NL) (ST rn : Nat → Bool) (ws : List (List Nat)) : Prop := S2 sk L τ0 ∧ TKe sk L own τ0 fs s xs ST rn ∧ AL (byP s.2.2.1.length (tB fs s.2.2.1) s.2.1.1) xs ∧ CW sk L τ0 ws
/-- the object that was taken as the t-th -/
def Obt (τ0 : px_TT) (s : px_TK) (t q : Nat) : Prop := (∃ q', s.2.2.1[t]? = some q' ∧ q = 10 + 2 * q') ∧ OBq q ∧ Syb τ0 q
section CMG
variable {F : Nat} {c : px_CT} {sk : Nat → Nat × Nat × Nat} {L : Nat} {zb : Option Nat} {τ0 τ : px_TT} {r q : Nat} {own : Nat → Nat × Nat} {fs : px_FS} {s : px_TK} {xs : px_NL} {ST rn : Nat → Bool} {ws : List (List Nat)} {I : px_TT → Prop} {α : Type} {V : α → Prop} {t : Nat}
theorem Obt_q (h : Obt τ0 s t q) : OBq q := h.2.1
theorem TKe_Nmo (h : TKe sk L own τ fs s xs ST rn) (hb : AL (byP s.2.2.1.length (tB fs s.2.2.1) s.2.1.1) xs) {i : Nat} (hi : i < xs.length) : Nmo sk L τ (pN τ 149 i) := by
  obtain ⟨x, hx⟩ : ∃ x, xs[i]? = some x := ⟨_, List.getElem?_eq_getElem hi⟩
  have hT := BK_T (s := s) h.2.2.2.2.1.1
  have hy := TKe_ys h
  obtain ⟨a1, a2, a3, ⟨k1, k2, k3, k4⟩, a5, a6, a7⟩ := h
  have hns := k2.1.2.2.2.2.2.2 i x.1 (by rw [List.getElem?_map, hx]; rfl)
  refine ⟨(k1 149 i _ (Or.inr (Or.inr rfl)) hns.2.1).1, hns.2.2.1, fun h5 => ?_⟩
  rcases home_of (k2.2.1 i x hx).1 (hb i x hx) (a6 i x hx) (fun t ht => (hy t ht).1) (fun t ht => (hy t ht).2.1) with ⟨_, y, _, e, hy⟩ | ⟨hne, _⟩
  · exact ⟨y, by omega, e⟩
  · exact absurd h5 hne
theorem pN_SI {A i : Nat} (hI : SI zb sk L τ0 τ) (hA : A ≠ 1717) : pN τ A i = pN τ0 A i := by
  unfold pN
  rw [hI.1.2.2.2.2.2 A hA]
theorem S3_T (h3 : S3 sk L own τ0 fs s xs ST rn ws) : s.2.2.1.length ≤ 64 := BK_T (s := s) h3.2.1.2.2.2.2.1.1
theorem tkn_le {j : Nat} (h3 : S3 sk L own τ0 fs s xs ST rn ws) (hI : SI zb sk L τ0 τ) (hj : s.2.2.1.length ≤ j) (hj2 : j < 2 ^ 31) : fI τ 147 14 ≤ nI j := by
  rw [SI_147 hI (by decide), h3.2.1.2.2.2.1.2.2.1]
  exact nI_le hj hj2
theorem tkn_gt {j : Nat} (h3 : S3 sk L own τ0 fs s xs ST rn ws) (hI : SI zb sk L τ0 τ) (hc : ¬ fI τ 147 14 ≤ nI j) (hj2 : j < 2 ^ 31) : j < s.2.2.1.length := Nat.lt_of_not_le (fun h => hc (tkn_le h3 hI h hj2))
theorem sx_obj {f : Option Nat → px_H → Option (α × px_H)} (h3 : S3 sk L own τ0 fs s xs ST rn ws) (hI : SI zb sk L τ0 τ) (ht : t < s.2.2.1.length) (g : ∀ q, Obt τ0 s t q → Sf sk L I V (f (some q) (cH sk L τ))) : Sf sk L I V (xb (f_Link_object F c 147 (nI t) (cH sk L τ)) f) := by
  obtain ⟨q', q1, q2, hD, hcb, he, hp, hRS, h89⟩ := TKe_ob h3.2.1 ht
  rw [k_object (TKe_Zf h3.2.1 hI.1) q1, xb_mk]
  obtain ⟨⟨hG, hY, hw⟩, _, _⟩ := hD
  exact g _ ⟨⟨q', q1, rfl⟩, ⟨q', q2, rfl⟩, ⟨_, w2_M hw, hY.2.1⟩, _, hG.1.2.1.2.2, hG.1.2.2.2.2⟩
theorem sx_part {f : Option Nat → px_H → Option (α × px_H)} {i : Nat} (h3 : S3 sk L own τ0 fs s xs ST rn ws) (hI : SI zb sk L τ0 τ) (ht : t < s.2.2.1.length) (hi : i < 24) (g : ∀ x, x < 1536 → Sf sk L I V (f (some (152 + x)) (cH sk L τ))) : Sf sk L I V (xb (f_Link_part F c 147 (nI t) (nI i) (cH sk L τ)) f) := by
  have hT := S3_T h3
  rw [k_part h3.1.1.1.1 (GR_Z h3.1.1.1.2.1 hI.1) (by omega) hi, xb_mk]
  exact g _ (by omega)
theorem sx_partI {f : Option Nat → px_H → Option (α × px_H)} {x : Int32} (h3 : S3 sk L own τ0 fs s xs ST rn ws) (hI : SI zb sk L τ0 τ) (ht : t < s.2.2.1.length) (h1 : ¬ x ≤ 0) (h2 : ¬ nI 24 ≤ x) (g : ∀ x, x < 1536 → Sf sk L I V (f (some (152 + x)) (cH sk L τ))) : Sf sk L I V (xb (f_Link_part F c 147 (nI t) x (cH sk L τ)) f) := by
  have hn : ¬ x < 0 := fun h => h1 (Int32.le_of_lt h)
  obtain ⟨i, hi, rfl⟩ := nI_of hn
  exact sx_part h3 hI ht (Nat.lt_of_not_le (fun h => h2 (nI_le h hi))) g
/-- the name that a symbol of a taken object stands for, if it stands for one -/
theorem sx_name {f : Option Nat → px_H → Option (α × px_H)} {x : Int32} (h3 : S3 sk L own τ0 fs s xs ST rn ws) (hI : SI zb sk L τ0 τ) (ht : t < s.2.2.1.length) (g0 : Sf sk L I V (f none (cH sk L τ))) (g1 : ∀ p, Nmo sk L τ0 p → Sf sk L I V (f (some p) (cH sk L τ))) : Sf sk L I V (xb (f_Link_nameOf F c 147 (nI t) x (cH sk L τ)) f) := by
  have hT := S3_T h3
  have hS := h3.1.1.1.1
  have hR := GR_Z h3.1.1.1.2.1 hI.1
  obtain ⟨q', q1, q2, hD, hcb, he, hp, hRS, h89⟩ := TKe_ob h3.2.1 ht
  by_cases c1 : x < 0
  · have e : f_Link_nameOf F c 147 (nI t) x (cH sk L τ) = some (none, cH sk L τ) := by
      unfold f_Link_nameOf f_Link_nameOf_34 f_Link_nameOf_35 f_Link_nameOf_52
      rw [if_pos c1, if_pos (show nI 0 = 0 from rfl)]
    rw [e, xb_mk]; exact g0
  · obtain ⟨j, hj, rfl⟩ := nI_of c1
    by_cases c2 : j < 64
    · rw [k_nameOf hS hR (by omega) c2, xb_mk, hI.1.2.2.2.2.2 1692 (by decide), (hRS j c2).1]
      unfold syN
      by_cases c3 : hsN (tB fs s.2.2.1 t) j = true
      · rw [if_pos c3]
        have hm := (hRS j c2).2 c3
        have hl := plc_lt hm
        rw [List.length_map] at hl
        exact g1 _ (TKe_Nmo h3.2.1 h3.2.2.1 hl)
      · rw [if_neg c3]; exact g0
    · have e : f_Link_nameOf F c 147 (nI t) (nI j) (cH sk L τ) = some (none, cH sk L τ) := by
        unfold f_Link_nameOf f_Link_nameOf_34 f_Link_nameOf_35 f_Link_nameOf_52
        rw [if_neg c1, if_pos (show nI 64 ≤ nI j from nI_le (by omega) hj), if_pos (show nI 0 = 0 from rfl)]
      rw [e, xb_mk]; exact g0
theorem sx_stay {f : Option Nat → px_H → Option (α × px_H)} {i : Nat} (h3 : S3 sk L own τ0 fs s xs ST rn ws) (hF : 65540 < F) (hI : SI zb sk L τ0 τ) (ht : t < s.2.2.1.length) (hq : Obt τ0 s t q) (hc : ¬ fI τ q 8 ≤ nI i) (hi2 : i < 2 ^ 31) (g0 : Sf sk L I V (f none (cH sk L τ))) (g1 : ∀ x, x < 1536 → i < oS (tB fs s.2.2.1 t) → isS (tB fs s.2.2.1 t) i = true → Sf sk L I V (f (some (152 + x)) (cH sk L τ))) : Sf sk L I V (xb (f_Link_stayingTarget F c 147 (nI t) (nI i) (cH sk L τ)) f) := by
  have hT := S3_T h3
  have hk := TKe_Zf h3.2.1 hI.1
  obtain ⟨q', q1, q2, hD, hcb, he, hp, hRS, h89⟩ := TKe_ob hk ht
  obtain ⟨⟨q'', e1, rfl⟩, _⟩ := hq
  rw [q1] at e1
  injection e1 with e1
  subst e1
  have h8 : fI τ (10 + 2 * q') 8 = nI (oS (tB fs s.2.2.1 t)) := by rw [← hcb]; exact hD.1.1.1.2.2.2.2
  have hi : i < oS (tB fs s.2.2.1 t) := Nat.lt_of_not_le (fun h => hc (by rw [h8]; exact nI_le h hi2))
  rw [k_stayT hk (by omega) ht hi, xb_mk]
  by_cases cc : isS (tB fs s.2.2.1 t) i = true ∧ ST (24 * t + oI (tB fs s.2.2.1 t) i) = true
  · rw [if_pos cc]
    have hI2 : oI (tB fs s.2.2.1 t) i < oS (tB fs s.2.2.1 t) := by
      have := cc.1; unfold isS at this; exact (of_decide_eq_true this).2.1
    have h24 := (TKe_ys hk t ht).2.1
    exact g1 _ (by omega) hi cc.1
  · rw [if_neg cc]; exact g0
theorem sx_sites {f : Int32 → px_H → Option (α × px_H)} {i : Nat} (h3 : S3 sk L own τ0 fs s xs ST rn ws) (hF : 65540 < F) (hI : SI zb sk L τ0 τ) (ht : t < s.2.2.1.length) (hq : Obt τ0 s t q) (hi : i < oS (tB fs s.2.2.1 t)) (hs : isS (tB fs s.2.2.1 t) i = true) (g : ∀ n, n ≤ 65536 → Sf sk L I V (f (nI n) (cH sk L τ))) : Sf sk L I V (xb (f_ObjectFile_sitesOf F c q (nI i) (cH sk L τ)) f) := by
  have hk := TKe_Zf h3.2.1 hI.1
  obtain ⟨q', q1, q2, hD, hcb, he, hp, hRS, h89⟩ := TKe_ob hk ht
  obtain ⟨⟨q'', e1, rfl⟩, _⟩ := hq
  rw [q1] at e1
  injection e1 with e1
  subst e1
  have hn : tNf fs s.2.2.1 t ≤ 65536 := by have := hD.1.1.1.1.2.2.2.2.2.2.2.2.1; omega
  have hb : sN (tB fs s.2.2.1 t) i ≤ 65536 := by
    by_cases c0 : sN (tB fs s.2.2.1 t) i = 0
    · omega
    · have hz : 0 < sN (tB fs s.2.2.1 t) i := by omega
      have hpl := (s_place he hi hs (show sN (tB fs s.2.2.1 t) i - 1 < sN (tB fs s.2.2.1 t) i by omega)).1
      unfold sP at hpl
      omega
  rw [(k_sitesOf (F := F) (c := c) hD (by omega) hcb hi hs).1, xb_mk]
  exact g _ hb
theorem so_num {x : Int32} {k : Nat} (h0 : S0 sk L τ0) (hF : 65540 < F) (hI : SI zb sk L τ0 τ) (hq : OBq q) (hk : k ≤ 8) : ∃ v, f_ObjectFile_num F c q x (nI k) (cH sk L τ) = some (v, cH sk L τ) := k_onumS (by omega) h0.1 (GR_Z h0.2.1 hI.1) (OBq_F h0 hI hq) hk
theorem so_type {x : Int32} (h0 : S0 sk L τ0) (hF : 65540 < F) (hI : SI zb sk L τ0 τ) (hq : OBq q) : ∃ v, f_ObjectFile_typeOf F c q x (cH sk L τ) = some (v, cH sk L τ) := by
  have ho := OBq_F h0 hI hq
  obtain ⟨w, kw⟩ := so_num (F := F) (c := c) (x := (fI τ q 7 + nI 64 * x) + nI 4) (k := 4) h0 hF hI hq (by decide)
  unfold f_ObjectFile_typeOf
  exact ⟨_, by rw [C7g7 ho.1, bs, c_o ho.1, bs, kw, xb_mk]⟩
theorem so_flags {x : Int32} (h0 : S0 sk L τ0) (hF : 65540 < F) (hI : SI zb sk L τ0 τ) (hq : OBq q) : ∃ v, f_ObjectFile_flagsOf F c q x (cH sk L τ) = some (v, cH sk L τ) := by
  have ho := OBq_F h0 hI hq
  obtain ⟨w, kw⟩ := so_num (F := F) (c := c) (x := (fI τ q 7 + nI 64 * x) + nI 8) (k := 8) h0 hF hI hq (by decide)
  unfold f_ObjectFile_flagsOf
  exact ⟨_, by rw [C7g7 ho.1, bs, c_o ho.1, bs, kw, xb_mk]⟩
theorem so_align {x : Int32} (h0 : S0 sk L τ0) (hF : 65540 < F) (hI : SI zb sk L τ0 τ) (hq : OBq q) : ∃ v, f_ObjectFile_alignOf F c q x (cH sk L τ) = some (v, cH sk L τ) := by
  have ho := OBq_F h0 hI hq
  obtain ⟨w, kw⟩ := so_num (F := F) (c := c) (x := (fI τ q 7 + nI 64 * x) + nI 48) (k := 8) h0 hF hI hq (by decide)
  unfold f_ObjectFile_alignOf
  exact ⟨_, by rw [C7g7 ho.1, bs, c_o ho.1, bs, kw, xb_mk]⟩
theorem so_place {x : Int32} (h0 : S0 sk L τ0) (hF : 65540 < F) (hI : SI zb sk L τ0 τ) (hq : OBq q) : ∃ v, f_ObjectFile_placeOf F c q x (cH sk L τ) = some (v, cH sk L τ) := by
  have ho := OBq_F h0 hI hq
  obtain ⟨w, kw⟩ := so_num (F := F) (c := c) (x := (fI τ q 7 + nI 64 * x) + nI 24) (k := 8) h0 hF hI hq (by decide)
  unfold f_ObjectFile_placeOf
  exact ⟨_, by rw [C7g7 ho.1, bs, c_o ho.1, bs, kw, xb_mk]⟩
theorem sec_le {j : Nat} (hq : Obt τ0 s t q) (hI : SI zb sk L τ0 τ) (hj : 24 ≤ j) (hj2 : j < 2 ^ 31) : fI τ q 8 ≤ nI j := by
  obtain ⟨z, h1, h2⟩ := hq.2.2.2
  rw [SI_q hI hq.2.1, h2]
  exact nI_le (by omega) hj2
theorem syt_le {j : Nat} (hq : Obt τ0 s t q) (hI : SI zb sk L τ0 τ) (hj : 64 ≤ j) (hj2 : j < 2 ^ 31) : fI τ q 11 ≤ nI j := sym_le hq.2.2 hq.2.1 hI hj hj2
end CMG
