/-! siteValue of the reference -/
theorem ixB_mono {p : Nat → Bool} {z : Nat} : ∀ {l : List Nat} {k : Nat}, (ixB p k l).isSome = true → (ixB p k (l ++ [z])).isSome = true := by
  intro l
  induction l with
  | nil => intro k h; exact nomatch h
  | cons y l ih =>
    intro k h
    rw [List.cons_append, ixB_s]
    rw [ixB_s] at h
    split
    · rfl
    · rename_i c
      rw [if_neg c] at h
      exact ih h
theorem ixB_last {p : Nat → Bool} {z : Nat} (hz : p z = true) : ∀ {l : List Nat} {k : Nat}, (ixB p k (l ++ [z])).isSome = true := by
  intro l
  induction l with
  | nil => intro k; show (ixB p k [z]).isSome = true; rw [ixB_s, if_pos hz]; rfl
  | cons y l ih =>
    intro k
    rw [List.cons_append, ixB_s]
    split
    · rfl
    · exact ih
theorem sl1_mono {tb : Nat → Nat → Nat} {xs : px_NL} {z : Nat} {sl : List Nat} {p : Nat → Bool} (h : (ixB p 0 sl).isSome = true) : (ixB p 0 (sl1 tb xs z sl)).isSome = true := by
  unfold sl1
  split
  · exact h
  · exact ixB_mono h
theorem sl1_hit {tb : Nat → Nat → Nat} {xs : px_NL} {z : Nat} {sl : List Nat} : (ixB (skE tb xs z) 0 (sl1 tb xs z sl)).isSome = true := by
  unfold sl1
  split
  · rename_i c; exact c
  · exact ixB_last skE_refl
section MFH
variable {tb : Nat → Nat → Nat} {dr : Nat → Bool} {xs : px_NL} {sy : Nat → Nat → Bool} {t i j T : Nat} {p : Nat → Bool}
theorem fsJ_mono {sl : List Nat} (h : (ixB p 0 sl).isSome = true) : (ixB p 0 (fsJ tb dr xs t i j sl)).isSome = true := by
  unfold fsJ
  split
  · exact sl1_mono h
  · exact h
theorem fsI_mono {sl : List Nat} (h : (ixB p 0 sl).isSome = true) : (ixB p 0 (fsI tb dr xs sy t i sl)).isSome = true := by
  unfold fsI
  split
  · exact itr_inv (g := fsJ tb dr xs t i) (P := fun sl => (ixB p 0 sl).isSome = true) (a := 0) (e := 0 + sN (tb t) i) (fun j s _ _ hs => fsJ_mono hs) (sN (tb t) i) 0 sl (Nat.le_refl _) (Nat.le_refl _) h
  · exact h
theorem fsT_mono {sl : List Nat} (h : (ixB p 0 sl).isSome = true) : (ixB p 0 (fsT tb dr xs sy t sl)).isSome = true :=
  itr_inv (g := fsI tb dr xs sy t) (P := fun sl => (ixB p 0 sl).isSome = true) (a := 0) (e := 1 + (oS (tb t) - 1)) (fun j s _ _ hs => fsI_mono hs) (oS (tb t) - 1) 1 sl (by decide) (Nat.le_refl _) h
/-- a site with a slot has one -/
theorem slL_hit (ht : t < T) (h1 : 1 ≤ i) (hi : i < oS (tb t)) (hs : isS (tb t) i = true) (hsy : sy t (oI (tb t) i) = true) (hj : j < sN (tb t) i) (hw : isSl (sH (tb t) i j) = true) (hk : skY tb dr xs t i j = 0) : (ixB (skE tb xs (zOf t (sY (tb t) i j) (sH (tb t) i j))) 0 (slL T tb dr xs sy)).isSome = true := by
  have hJ : ∀ sl, (ixB (skE tb xs (zOf t (sY (tb t) i j) (sH (tb t) i j))) 0 (itr (fsJ tb dr xs t i) 0 (sN (tb t) i) sl)).isSome = true := fun sl =>
    (itr_hit (g := fsJ tb dr xs t i) (M := fun (q : Nat) sl => (ixB (skE tb xs (zOf t (sY (tb t) i q) (sH (tb t) i q))) 0 sl).isSome = true) (v := fun q => q) (Q := fun q => isSl (sH (tb t) i q) = true ∧ skY tb dr xs t i q = 0) (a := 0) (e := sN (tb t) i) (fun q s w _ _ hw => fsJ_mono hw) (fun q s _ _ hq => by
      unfold fsJ
      rw [if_pos hq]
      exact sl1_hit) (sN (tb t) i) 0 sl (Nat.le_refl _) (by omega)).2 j (Nat.zero_le _) (by omega) ⟨hw, hk⟩
  have hI : ∀ sl, (ixB (skE tb xs (zOf t (sY (tb t) i j) (sH (tb t) i j))) 0 (fsT tb dr xs sy t sl)).isSome = true := fun sl =>
    (itr_hit (g := fsI tb dr xs sy t) (M := fun (_ : Nat) sl => (ixB (skE tb xs (zOf t (sY (tb t) i j) (sH (tb t) i j))) 0 sl).isSome = true) (v := fun q => q) (Q := fun q => q = i) (a := 1) (e := oS (tb t)) (fun q s w _ _ hw => fsI_mono hw) (fun q s _ _ hq => by
      rw [hq]
      unfold fsI
      rw [if_pos ⟨hs, hsy⟩]
      exact hJ s) (oS (tb t) - 1) 1 sl (Nat.le_refl _) (by omega)).2 i h1 (by omega) rfl
  exact (itr_hit (g := fsT tb dr xs sy) (M := fun (_ : Nat) sl => (ixB (skE tb xs (zOf t (sY (tb t) i j) (sH (tb t) i j))) 0 sl).isSome = true) (v := fun q => q) (Q := fun q => q = t) (a := 0) (e := T) (fun q s w _ _ hw => fsT_mono hw) (fun q s _ _ hq => by
      rw [hq]
      exact hI s) T 0 [] (Nat.le_refl _) (by omega)).2 t (Nat.zero_le _) (by omega) rfl
end MFH
/-- the number of the slot of symbol k of object t -/
def slX (tb : Nat → Nat → Nat) (xs : px_NL) (sl : List Nat) (t k how : Nat) : Nat := (ixB (skE tb xs (zOf t k how)) 0 sl).getD sl.length
def siV (B : Nat → Nat) (pf : List Nat) (tO : Nat → Nat) (tb : Nat → Nat → Nat) (dr : Nat → Bool) (xs : px_NL) (sy : Nat → Nat → Bool) (sl : List Nat) (SA : Nat → Nat → Int64) (SI : Int64) (sp tp pp t i j : Nat) : Int64 :=
  if 0 < skY tb dr xs t i j then SA t (sY (tb t) i j) + lN (sD (tb t) i j) - SI + (if skY tb dr xs t i j = 3 then lN 1 else lN 0)
  else if (sH (tb t) i j = 1 ∨ sH (tb t) i j = 10 ∨ sH (tb t) i j = 11) ∧ ofS tb dr sy t (sY (tb t) i j) = true then lN (pp + baN B pf (tO t + oP (tb t) (yW (tb t) (sY (tb t) i j))) (oZ (tb t) (yW (tb t) (sY (tb t) i j))) ((yV (tb t) (sY (tb t) i j) + sD (tb t) i j) % 2 ^ 64))
  else if isSl (sH (tb t) i j) = true then lN (sp + 8 * slX tb xs sl t (sY (tb t) i j) (sH (tb t) i j)) + lN (sD (tb t) i j) - SI
  else if sH (tb t) i j = 2 ∨ sH (tb t) i j = 4 then SA t (sY (tb t) i j) + lN (sD (tb t) i j) - SI
  else if sH (tb t) i j = 18 ∨ sH (tb t) i j = 23 then SA t (sY (tb t) i j) + lN (sD (tb t) i j) - lN tp
  else SA t (sY (tb t) i j) + lN (sD (tb t) i j)
section MSX
variable {F m T t k i j : Nat} {h : px_H} {σ : px_S} {B : Nat → Nat} {tb : Nat → Nat → Nat} {tO tn tq : Nat → Nat} {dr : Nat → Bool} {xs : px_NL} {ll : List Nat} {on : Bool} {R : Nat → Bool} {NA : Nat → Int64} {ad : Nat → Nat} {sp tp pp : Nat}
theorem q_sV_216 {sl : List Nat} {V A SI : Int64} (hm : m ≤ h.length) (hsa : f_M_siteAddress F m (nI t) (nI i) (nI j) (mh m h σ) = some (SI, mh m h σ)) (h87 : gJ σ 87 = lN tp) (hH : sH (tb t) i j < 2 ^ 32) : f_M_siteValue_216 F m (nI t) (nI i) (nI j) (lN (sH (tb t) i j)) A V (mh m h σ) = some (if sH (tb t) i j = 2 ∨ sH (tb t) i j = 4 ∨ isSl (sH (tb t) i j) = true then V + A - SI else if sH (tb t) i j = 18 ∨ sH (tb t) i j = 23 then V + A - lN tp else V + A, mh m h σ) := by
  have k2 : (lN (sH (tb t) i j) = (2 : Int64)) ↔ sH (tb t) i j = 2 := lEQ (b := 2) (by omega) (by decide)
  have k4 : (lN (sH (tb t) i j) = (4 : Int64)) ↔ sH (tb t) i j = 4 := lEQ (b := 4) (by omega) (by decide)
  have k18 : (lN (sH (tb t) i j) = (18 : Int64)) ↔ sH (tb t) i j = 18 := lEQ (b := 18) (by omega) (by decide)
  have k23 : (lN (sH (tb t) i j) = (23 : Int64)) ↔ sH (tb t) i j = 23 := lEQ (b := 23) (by omega) (by decide)
  have ks := q_isSlotted (F := F) (h := mh m h σ) (show sH (tb t) i j < 4294967296 by omega)
  rw [show decide (sH (tb t) i j = 9 ∨ sH (tb t) i j = 22 ∨ sH (tb t) i j = 41 ∨ sH (tb t) i j = 42) = isSl (sH (tb t) i j) from rfl] at ks
  generalize sH (tb t) i j = H at *
  unfold f_M_siteValue_216 f_M_siteValue_247 f_M_siteValue_278 f_M_siteValue_290
  simp only [k2, k4, k18, k23, ks, xb_mk, e_o hm, bs, hsa, Mg87 hm, h87]
  by_cases c2 : H = 2
  · rw [if_pos c2, if_pos (Or.inl c2)]
  · rw [if_neg c2]
    by_cases c4 : H = 4
    · rw [if_pos c4, if_pos (Or.inr (Or.inl c4))]
    · rw [if_neg c4]
      cases es : isSl H with
      | true => rw [if_neg (show ¬ bI true = 0 by decide), if_pos (Or.inr (Or.inr rfl))]
      | false =>
        rw [if_pos (show bI false = 0 from rfl), if_neg (show ¬ (H = 2 ∨ H = 4 ∨ false = true) from fun q => q.elim c2 (fun q => q.elim c4 (fun q => nomatch q)))]
        by_cases c5 : H = 18
        · rw [if_pos c5, if_pos (Or.inl c5)]
        · rw [if_neg c5]
          by_cases c6 : H = 23
          · rw [if_pos c6, if_pos (Or.inr c6)]
          · rw [if_neg c6, if_neg (fun q => q.elim c5 c6)]
theorem q_sV_167 (hm : m ≤ h.length) (hF : 65540 < F) (hf : RFn σ T tO tn tq tb dr xs on R ll B (slL T tb dr xs (sta tb dr on R)) NA ad sp tp pp) (hN : FNo T tO tb dr xs (sta tb dr on R) ll B (slL T tb dr xs (sta tb dr on R))) (ht : t < T) (h1 : 1 ≤ i) (hi : i < oS (tb t)) (hs : isS (tb t) i = true) (hj : j < sN (tb t) i) (hsta : sta tb dr on R t (oI (tb t) i) = true) (h1o : 1 ≤ oI (tb t) i) (hsk : skY tb dr xs t i j = 0) : f_M_siteValue_167 F m (nI t) (nI i) (nI j) (lN (sH (tb t) i j)) (nI (sY (tb t) i j)) (lN (sD (tb t) i j)) (mh m h σ) = some (if isSl (sH (tb t) i j) = true then lN (sp + 8 * slX tb xs (slL T tb dr xs (sta tb dr on R)) t (sY (tb t) i j) (sH (tb t) i j)) + lN (sD (tb t) i j) - siA tb ad t i j else if sH (tb t) i j = 2 ∨ sH (tb t) i j = 4 then syA tb xs (ownV B (pf0 B tO tb ll) tO tb dr (sta tb dr on R) pp ad) NA t (sY (tb t) i j) + lN (sD (tb t) i j) - siA tb ad t i j else if sH (tb t) i j = 18 ∨ sH (tb t) i j = 23 then syA tb xs (ownV B (pf0 B tO tb ll) tO tb dr (sta tb dr on R) pp ad) NA t (sY (tb t) i j) + lN (sD (tb t) i j) - lN tp else syA tb xs (ownV B (pf0 B tO tb ll) tO tb dr (sta tb dr on R) pp ad) NA t (sY (tb t) i j) + lN (sD (tb t) i j), mh m h σ) := by
  have hf0 := hf
  have hN0 := hN
  obtain ⟨⟨hW, hpo⟩, ⟨hd, hst, hr⟩, hsl, hna, had, h79, h87, h90, h14⟩ := hf
  obtain ⟨n1, n2, n3, n4, n5, n6, n7⟩ := hN
  have hb := hW.1 t ht
  have he := eSit_0 hb.2.2.2.1 h1 hi hs
  have hok := sOK_0w (he.2.2.2.2.2 j hj)
  have hM := w2_M (OB_w hb)
  have hsH : sH (tb t) i j < 2 ^ 32 := le_lt (OB_lt hb) _ 4
  have hsa := q_siteAddress (F := F) hm hF hf0 hN0 ht h1 hi hs hj hsta h1o
  have ks := q_isSlotted (F := F) (h := mh m h σ) (show sH (tb t) i j < 4294967296 by omega)
  rw [show decide (sH (tb t) i j = 9 ∨ sH (tb t) i j = 22 ∨ sH (tb t) i j = 41 ∨ sH (tb t) i j = 42) = isSl (sH (tb t) i j) from rfl] at ks
  unfold f_M_siteValue_167
  rw [ks, xb_mk]
  cases es : isSl (sH (tb t) i j) with
  | false =>
    rw [if_pos (show bI false = 0 from rfl), if_neg (by decide), e_o hm, bs, q_symbolAddress hm hF hf0 hN0 ht hok.2.1, xb_mk, q_sV_216 (sl := []) hm hsa h87 hsH, es]
    by_cases c2 : sH (tb t) i j = 2 ∨ sH (tb t) i j = 4
    · rw [if_pos c2, if_pos (c2.elim Or.inl (fun q => Or.inr (Or.inl q)))]
    · rw [if_neg c2, if_neg (fun q => c2 (q.elim Or.inl (fun q => q.elim Or.inr (fun q => nomatch q))))]
  | true =>
    have hhit := slL_hit (T := T) ht h1 hi hs hsta hj es hsk
    have ez1 : zOf t (sY (tb t) i j) (sH (tb t) i j) / 2 / 64 = t := by rw [zOf_2]; omega
    have ez2 : zOf t (sY (tb t) i j) (sH (tb t) i j) / 2 % 64 = sY (tb t) i j := by rw [zOf_2]; omega
    have ez3 := zOf_1 (t := t) (k := sY (tb t) i j) (how := sH (tb t) i j)
    obtain ⟨σ1, a1, a2, a3, a4, a5⟩ := q_slotOf (F := F) (h := h) (z := zOf t (sY (tb t) i j) (sH (tb t) i j)) hm (by omega) n6 n1 ⟨hW.1, hd, hr⟩ (by rw [ez1, ez2]; exact ⟨ht, hok.2.1⟩) hsl n7
    rw [ez1, ez2, ez3, a4 hhit] at a1
    obtain ⟨x, hx⟩ := Option.isSome_iff_exists.mp hhit
    have hxl := ixB_lt hx
    have hll := n6 _ n7
    have exl : slX tb xs (slL T tb dr xs (sta tb dr on R)) t (sY (tb t) i j) (sH (tb t) i j) = x := by unfold slX; rw [hx]; rfl
    rw [hx] at a1
    have a1 : f_M_slotOf F m (nI t) (nI (sY (tb t) i j)) (bI (decide (sH (tb t) i j = 22))) (mh m h σ) = some (nI x, mh m h σ) := a1
    have e200 : f_M_siteValue_200 F m (nI t) (nI i) (nI j) (lN (sH (tb t) i j)) (lN (sD (tb t) i j)) (lN sp) (8 : Int64) m (nI t) (nI (sY (tb t) i j)) (bI (decide (sH (tb t) i j = 22))) (mh m h σ) = some (lN (sp + 8 * x) + lN (sD (tb t) i j) - siA tb ad t i j, mh m h σ) := by
      unfold f_M_siteValue_200
      rw [e_o hm, bs, a1, xb_mk, nI_l (by omega), show (8 : Int64) = lN 8 from rfl, lN_mul, lN_add, q_sV_216 (sl := []) hm hsa h87 hsH, es, if_pos (Or.inr (Or.inr rfl))]
    rw [if_neg (show ¬ bI true = 0 by decide), if_pos rfl, Mg79 hm, bs, h79, exl]
    by_cases c22 : sH (tb t) i j = 22
    · rw [decide_eq_true c22] at e200
      rw [if_pos (show lN (sH (tb t) i j) = (22 : Int64) by rw [c22]; rfl)]
      exact e200
    · rw [decide_eq_false c22] at e200
      rw [if_neg (show ¬ lN (sH (tb t) i j) = (22 : Int64) from fun q => c22 ((lEQ (b := 22) (by omega) (by decide)).mp q))]
      exact e200
theorem q_siteValue (hm : m ≤ h.length) (hF : 65540 < F) (hf : RFn σ T tO tn tq tb dr xs on R ll B (slL T tb dr xs (sta tb dr on R)) NA ad sp tp pp) (hN : FNo T tO tb dr xs (sta tb dr on R) ll B (slL T tb dr xs (sta tb dr on R))) (ht : t < T) (h1 : 1 ≤ i) (hi : i < oS (tb t)) (hs : isS (tb t) i = true) (hj : j < sN (tb t) i) (hsta : sta tb dr on R t (oI (tb t) i) = true) (h1o : 1 ≤ oI (tb t) i) : f_M_siteValue F m (nI t) (nI i) (nI j) (mh m h σ) = some (siV B (pf0 B tO tb ll) tO tb dr xs (sta tb dr on R) (slL T tb dr xs (sta tb dr on R)) (syA tb xs (ownV B (pf0 B tO tb ll) tO tb dr (sta tb dr on R) pp ad) NA) (siA tb ad t i j) sp tp pp t i j, mh m h σ) := by
  have hf0 := hf
  have hN0 := hN
  obtain ⟨⟨hW, hpo⟩, ⟨hd, hst, hr⟩, hsl, hna, had, h79, h87, h90, h14⟩ := hf
  obtain ⟨n1, n2, n3, n4, n5, n6, n7⟩ := hN
  have hb := hW.1 t ht
  have he := eSit_0 hb.2.2.2.1 h1 hi hs
  have hok := sOK_0w (he.2.2.2.2.2 j hj)
  have hM := w2_M (OB_w hb)
  have hp := OB_sP hb h1 hi hs hj
  have hsH : sH (tb t) i j < 2 ^ 32 := le_lt (OB_lt hb) _ 4
  have hsa := q_siteAddress (F := F) hm hF hf0 hN0 ht h1 hi hs hj hsta h1o
  have hRW : RWd σ T tO tn tb dr xs := ⟨hW.1, hd, hr⟩
  unfold f_M_siteValue
  rw [e_o hm, bs, O_obj hm hb, xb_mk, e_o hm, bs, O_site hm (by omega) hb hi, xb_mk, e_o hm, bs, nI_add, O_sH hm (by omega) hb hp, xb_mk, e_o hm, bs, nI_add, O_sY hm (by omega) hb hp, xb_mk, e_o hm, bs, nI_add, O_sD hm (by omega) hb hp, xb_mk, e_o hm, bs, q_isShort hm (by omega) n1 hRW ht h1 hi hs hj, xb_mk, lN_i]
  have h3 := skY_3 (tb := tb) (dr := dr) (xs := xs) (t := t) (i := i) (j := j)
  by_cases c : 0 < skY tb dr xs t i j
  · have eV : siV B (pf0 B tO tb ll) tO tb dr xs (sta tb dr on R) (slL T tb dr xs (sta tb dr on R)) (syA tb xs (ownV B (pf0 B tO tb ll) tO tb dr (sta tb dr on R) pp ad) NA) (siA tb ad t i j) sp tp pp t i j = syA tb xs (ownV B (pf0 B tO tb ll) tO tb dr (sta tb dr on R) pp ad) NA t (sY (tb t) i j) + lN (sD (tb t) i j) - siA tb ad t i j + (if skY tb dr xs t i j = 3 then lN 1 else lN 0) := by unfold siV; rw [if_pos c]
    rw [eV, decide_eq_true c, if_neg (show ¬ bI true = 0 by decide), e_o hm, bs, q_symbolAddress hm hF hf0 hN0 ht hok.2.1, xb_mk, e_o hm, bs, hsa, xb_mk, e_o hm, bs, q_shortKind hm (by omega) n1 hRW ht h1 hi hs hj, xb_mk]
    unfold f_M_siteValue_95
    by_cases c3 : skY tb dr xs t i j = 3
    · rw [if_pos (by rw [c3]), if_pos c3]
    · rw [if_neg (fun q => c3 ((nI_eq (by omega) (by decide)).mp q)), if_neg c3]
  · have hsk : skY tb dr xs t i j = 0 := by omega
    have e167 := q_sV_167 (F := F) hm hF hf0 hN0 ht h1 hi hs hj hsta h1o hsk
    rw [decide_eq_false c, if_pos (show bI false = 0 from rfl)]
    have fin : ¬ ((sH (tb t) i j = 1 ∨ sH (tb t) i j = 10 ∨ sH (tb t) i j = 11) ∧ ofS tb dr (sta tb dr on R) t (sY (tb t) i j) = true) → f_M_siteValue_167 F m (nI t) (nI i) (nI j) (lN (sH (tb t) i j)) (nI (sY (tb t) i j)) (lN (sD (tb t) i j)) (mh m h σ) = some (siV B (pf0 B tO tb ll) tO tb dr xs (sta tb dr on R) (slL T tb dr xs (sta tb dr on R)) (syA tb xs (ownV B (pf0 B tO tb ll) tO tb dr (sta tb dr on R) pp ad) NA) (siA tb ad t i j) sp tp pp t i j, mh m h σ) := fun q => by
      rw [e167]
      unfold siV
      rw [if_neg c, if_neg q]
    have e122 : (sH (tb t) i j = 1 ∨ sH (tb t) i j = 10 ∨ sH (tb t) i j = 11) → f_M_siteValue_122 F m (nI t) (nI i) (nI j) (lN (sH (tb t) i j)) (nI (sY (tb t) i j)) (lN (sD (tb t) i j)) (mh m h σ) = some (siV B (pf0 B tO tb ll) tO tb dr xs (sta tb dr on R) (slL T tb dr xs (sta tb dr on R)) (syA tb xs (ownV B (pf0 B tO tb ll) tO tb dr (sta tb dr on R) pp ad) NA) (siA tb ad t i j) sp tp pp t i j, mh m h σ) := fun cw => by
      unfold f_M_siteValue_122
      rw [e_o hm, bs, q_isOfStrings hm hF hf0 ht hok.2.1, xb_mk]
      cases eo : ofS tb dr (sta tb dr on R) t (sY (tb t) i j) with
      | false =>
        rw [if_pos (show bI false = 0 from rfl)]
        exact fin (fun q => by rw [eo] at q; exact nomatch q.2)
      | true =>
        have eV : siV B (pf0 B tO tb ll) tO tb dr xs (sta tb dr on R) (slL T tb dr xs (sta tb dr on R)) (syA tb xs (ownV B (pf0 B tO tb ll) tO tb dr (sta tb dr on R) pp ad) NA) (siA tb ad t i j) sp tp pp t i j = lN (pp + baN B (pf0 B tO tb ll) (tO t + oP (tb t) (yW (tb t) (sY (tb t) i j))) (oZ (tb t) (yW (tb t) (sY (tb t) i j))) ((yV (tb t) (sY (tb t) i j) + sD (tb t) i j) % 2 ^ 64)) := by unfold siV; rw [if_neg c, if_pos ⟨cw, eo⟩]
        unfold ofS at eo
        rw [Bool.and_eq_true, Bool.and_eq_true, Bool.and_eq_true] at eo
        obtain ⟨o1, o2, o3, o4⟩ := eo
        unfold isN at o2
        rw [Bool.and_eq_true] at o2
        have o2 := of_decide_eq_true o2.1
        have hwy : wNo dr t (tb t) (sY (tb t) i j) = yW (tb t) (sY (tb t) i j) := by
          have : wNo dr t (tb t) (sY (tb t) i j) = 0 ∨ wNo dr t (tb t) (sY (tb t) i j) = yW (tb t) (sY (tb t) i j) := by unfold wNo; split; exact Or.inl rfl; exact Or.inr rfl
          rcases this with q | q
          · rw [q] at o2; omega
          · exact q
        rw [hwy] at o2 o3 o4
        have hin := n5 t _ ht o2.1 o2.2 o3
        have hS24 := (OB_w hb).1.2.1.2
        rw [eV, if_neg (show ¬ bI true = 0 by decide), e_o hm, bs, O_obj hm hb, xb_mk, e_o hm, bs, O_obj hm hb, xb_mk, e_o hm, bs, O_where hm (by omega) hb hok.2.1, xb_mk, e_o hm, bs, O_obj hm hb, xb_mk, e_o hm, bs, O_value hm (by omega) hb hok.2.1, xb_mk, e_o hm, bs, lN_add, lN_mod, q_byteAddress hm hF hW n2 n3 hpo n4 hin (by omega) o4 (Nat.mod_lt _ (by decide)) h90, xb_mk]
    by_cases d1 : sH (tb t) i j = 1
    · rw [if_pos (show lN (sH (tb t) i j) = lN 1 by rw [d1])]
      exact e122 (Or.inl d1)
    · rw [if_neg (fun q => d1 ((lEQ (by omega) (by decide)).mp q))]
      by_cases d2 : sH (tb t) i j = 10
      · rw [if_pos (show lN (sH (tb t) i j) = (10 : Int64) by rw [d2]; rfl)]
        exact e122 (Or.inr (Or.inl d2))
      · rw [if_neg (show ¬ lN (sH (tb t) i j) = (10 : Int64) from fun q => d2 ((lEQ (b := 10) (by omega) (by decide)).mp q))]
        by_cases d3 : sH (tb t) i j = 11
        · rw [if_pos (show lN (sH (tb t) i j) = (11 : Int64) by rw [d3]; rfl)]
          exact e122 (Or.inr (Or.inr d3))
        · rw [if_neg (show ¬ lN (sH (tb t) i j) = (11 : Int64) from fun q => d3 ((lEQ (b := 11) (by omega) (by decide)).mp q))]
          exact fin (fun q => q.1.elim d1 (fun q => q.elim d2 d3))
end MSX
