/-! what holds of the reference between two calls (steps spelled out by sf/pp.py) -/
/-- whom members were taken for: names that are there -/
def CPs (s : px_TK) : Prop := ∀ q i, s.2.2.2 q = some i → i < s.1.2.1.length
theorem CPs_tk {s : px_TK} {b : Nat → Nat} {q : Nat} (h : CPs s) : CPs (tkM b q s) := fun q' i hi => Nat.lt_of_lt_of_le (h q' i hi) (tks_len _ _ _)
theorem CPs_tf1 {fs : px_FS} {f k : Nat} {p : px_TK × Bool} (h : CPs p.1) : CPs (tf1 fs f k p).1 := by
  unfold tf1
  split
  · exact h
  · split
    · exact h
    · rename_i y hy
      split
      · exact h
      · split
        · exact h
        · rename_i i hi
          refine CPs_tk (s := (p.1.1, p.1.2.1, p.1.2.2.1, fun x => if x = 8 * f + k then some i else p.1.2.2.2 x)) (fun q' i' he => ?_)
          have he : (if q' = 8 * f + k then some i else p.1.2.2.2 q') = some i' := he
          by_cases c : q' = 8 * f + k
          · rw [if_pos c] at he
            cases he
            exact hpf_lt hi
          · rw [if_neg c] at he
            exact h q' i' he
theorem CPs_tfL {fs : px_FS} {f c : Nat} {s : px_TK} (h : CPs s) : CPs (tfL fs f c s) := by
  unfold tfL
  refine whl_inv (st := tfS) (g := rdF fs f) (P := CPs) (fun s hs => ?_) c s h
  unfold rdF
  exact itr_inv (g := tf1 fs f) (P := fun p : px_TK × Bool => CPs p.1) (a := 0) (e := 8) (fun k p _ _ hp => CPs_tf1 hp) 8 0 (s, false) (Nat.le_refl _) (Nat.le_refl _) hs
theorem CPs_ta1 {fs : px_FS} {f : Nat} {s : px_TK} (h : CPs s) : CPs (ta1 fs f s) := by
  unfold ta1
  split
  · exact h
  · split
    · exact h
    · split
      · exact CPs_tfL h
      · exact CPs_tk h
theorem CPs_tas {fs : px_FS} : ∀ (c f : Nat) (s : px_TK), CPs s → CPs (itr (ta1 fs) f c s) := by
  intro c
  induction c with
  | zero => intro f s h; exact h
  | succ c ih =>
    intro f s h
    rw [itr_s]
    exact ih (f + 1) _ (CPs_ta1 h)
theorem CPs_taL {fs : px_FS} {xs : px_NL} {od : List Nat} : CPs (taL fs xs od) := CPs_tas 8 0 _ (fun q i h => by cases h)
/-- what hangs on the latest link -/
def RVl (σ : px_S) : Prop := (∃ nms, RNm σ nms ∧ CAu σ nms) ∧ (∃ n, n ≤ 1536 ∧ gI σ 50 = nI n) ∧ (gI σ 13 = 0 → (∃ nS nD zf uf gf ff mf lf df, MPs σ nS nD zf uf gf ff mf lf df) ∧ ∃ e nD th lf df, NMs σ e nD th lf df)
def RVc (σ : px_S) (a : Int32) : Prop := RVl σ ∧ gI σ 13 = a ∧ (∀ k, isB (gA σ 42 k)) ∧ (∀ k, isB (gA σ 91 k)) ∧ (∃ ch, gI σ 98 = bI ch) ∧ RC σ
def RV (σ : px_S) (fs : px_FS) (gs : List (List Nat × Int64)) (ws : List (List Nat)) (n : Nat) (b : Nat → Nat) (a : Int32) : Prop := RT σ n b ∧ RF σ fs ∧ RG σ gs ∧ RW σ ws ∧ OUo σ ∧ MV σ ∧ MNa σ ∧ RVc σ a
section MRV
variable {F m : Nat} {h : px_H} {σ0 σ σ' : px_S} {fs : px_FS} {gs : List (List Nat × Int64)} {ws : List (List Nat)} {n : Nat} {b : Nat → Nat} {a : Int32} {I J A B : List Nat}
theorem RT_FR (ht : RT σ n b) (f : FR I J A B σ σ') (h2 : 2 ∉ I) (h1 : 1 ∉ A) : RT σ' n b := by
  have e := f.2.2.1 1 h1
  exact ⟨(f.1 2 h2).trans ht.1, ht.2.1, by rw [e]; exact ht.2.2.1, by rw [e]; exact ht.2.2.2⟩
theorem MV_FR (hv : MV σ) (f : FR I J A B σ σ') (h1 : 102 ∉ I) (h2 : 106 ∉ B ∧ 107 ∉ B ∧ 108 ∉ B) : MV σ' := by
  obtain ⟨r, hr, er, hx⟩ := hv
  exact ⟨r, hr, (f.1 102 h1).trans er, fun i hi => by rw [f.2.2.2 106 h2.1, f.2.2.2 107 h2.2.1, f.2.2.2 108 h2.2.2]; exact hx i hi⟩
theorem MNa_FR (hv : MNa σ) (f : FR I J A B σ σ') (h1 : 44 ∉ I) (h2 : 45 ∉ A ∧ 46 ∉ A) : MNa σ' := by
  obtain ⟨r, hr, er, hx⟩ := hv
  exact ⟨r, hr, (f.1 44 h1).trans er, fun i hi => by rw [f.2.2.1 45 h2.1, f.2.2.1 46 h2.2]; exact hx i hi⟩
theorem RVl_FR (hv : RVl σ) (f : FR I J A B σ σ') (h1 : ∀ k, k ∈ [13, 15, 20, 43, 48, 50] → k ∉ I) (h3 : ∀ k, k ∈ [18, 21, 22, 39, 40, 49, 52, 53, 54, 55, 56, 59] → k ∉ A) : RVl σ' := by
  obtain ⟨⟨nms, hn, hc⟩, ⟨n, hn1, hn2⟩, hd⟩ := hv
  have g : ∀ k, k ∈ [13, 15, 20, 43, 48, 50] → gI σ' k = gI σ k := fun k hk => f.1 k (h1 k hk)
  have gA' : ∀ k, k ∈ [18, 21, 22, 39, 40, 49, 52, 53, 54, 55, 56, 59] → gA σ' k = gA σ k := fun k hk => f.2.2.1 k (h3 k hk)
  refine ⟨⟨nms, RNm_eq hn (g 20 (by decide)) (gA' 21 (by decide)) (gA' 22 (by decide)), fun q hq => ?_⟩, ⟨n, hn1, (g 50 (by decide)).trans hn2⟩, fun h0 => ?_⟩
  · rw [gA' 18 (by decide), gA' 40 (by decide)]; exact hc q hq
  · obtain ⟨⟨nS, nD, zf, uf, gf, ff, mf, lf, df, ⟨m1, m2, m3⟩, m4, m5, m6⟩, e, nD', th, lf', df', ⟨n1, n2⟩, ⟨n3, n4⟩, n5, n6, n7⟩ := hd ((g 13 (by decide)).symm.trans h0)
    refine ⟨⟨nS, nD, zf, uf, gf, ff, mf, lf, df, ⟨m1, (g 50 (by decide)).trans m2, fun p hp => ?_⟩, m4, (g 48 (by decide)).trans m5, fun i hi => ?_⟩, e, nD', th, lf', df', ⟨n1, (g 43 (by decide)).trans n2⟩, ⟨(g 15 (by decide)).trans n3, fun j hj => ?_⟩, n5, (g 48 (by decide)).trans n6, fun i hi => ?_⟩
    · rw [gA' 56 (by decide), gA' 54 (by decide), gA' 55 (by decide), gA' 52 (by decide), gA' 53 (by decide)]; exact m3 p hp
    · rw [gA' 49 (by decide), gA' 22 (by decide)]; exact m6 i hi
    · rw [gA' 59 (by decide)]; exact n4 j hj
    · rw [gA' 49 (by decide), gA' 22 (by decide), gA' 39 (by decide)]; exact n7 i hi
theorem RVc_FR (hv : RVc σ a) (f : FR I J A B σ σ') (h1 : ∀ k, k ∈ [13, 15, 20, 43, 48, 50, 98] → k ∉ I) (h3 : ∀ k, k ∈ [18, 21, 22, 39, 40, 42, 49, 52, 53, 54, 55, 56, 59, 91, 97, 116] → k ∉ A) : RVc σ' a := by
  obtain ⟨v1, v2, v3, v4, ⟨ch, v5⟩, v6⟩ := hv
  exact ⟨RVl_FR v1 f (fun k hk => h1 k (List.mem_append_left [98] hk)) (fun k hk => h3 k (by simp only [List.mem_cons, List.not_mem_nil, or_false] at hk ⊢; omega)), (f.1 13 (h1 13 (by decide))).trans v2, fun k => by rw [f.2.2.1 42 (h3 42 (by decide))]; exact v3 k, fun k => by rw [f.2.2.1 91 (h3 91 (by decide))]; exact v4 k, ⟨ch, (f.1 98 (h1 98 (by decide))).trans v5⟩, RC_FR v6 f (h3 116 (by decide)) (h3 97 (by decide))⟩
/-- calls that only write OUT and what they work with -/
theorem RV_out (hv : RV σ fs gs ws n b a) (f : FR [0, 4, 123, 124, 125, 126, 127] [] [3, 117, 118, 119, 120, 121, 122, 128, 129] [] σ σ') (ho : OUo σ') : RV σ' fs gs ws n b a := by
  obtain ⟨v1, v2, v3, v4, v5, v6, v7, v8⟩ := hv
  exact ⟨RT_FR v1 f (by decide) (by decide), RF_FR v2 f (by decide) (by decide), RG_FR v3 f (by decide) (by decide) (by decide), RW_FR v4 f (by decide) (by decide), ho, MV_FR v6 f (by decide) (by decide), MNa_FR v7 f (by decide) (by decide), RVc_FR v8 f (by decide) (by decide)⟩
theorem RV_0 (hv : RV σ fs gs ws n b a) (f : FR [0] [] [] [] σ σ') : RV σ' fs gs ws n b a := RV_out hv (FR_mono f (by decide) (by decide) (by decide) (by decide)) (OUo_FR hv.2.2.2.2.1 f (by decide) (by decide))
theorem RV_W (hv : RV σ fs gs ws n b a) (w : OWe σ σ') : RV σ' fs gs ws n b a := by
  obtain ⟨cc, hcc, hW⟩ := w
  exact RV_out hv (FR_mono hW.1 (by decide) (by decide) (by decide) (by decide)) ⟨⟨cc, hcc, hW.2.1⟩, hW.2.2⟩
/-- a call that is safe: what holds then -/
def UM (m : Nat) (h : px_H) (fs : px_FS) (gs : List (List Nat × Int64)) (ws : List (List Nat)) (n : Nat) (b : Nat → Nat) (a : Int32) {α : Type} (o : Option (α × px_H)) : Prop := ∃ v σ', o = some (v, mh m h σ') ∧ RV σ' fs gs ws n b a
theorem UM_0 {α : Type} {o : Option (α × px_H)} (hv : RV σ fs gs ws n b a) (w : Sm m h (FR [0] [] [] [] σ) Any o) : UM m h fs gs ws n b a o := by
  obtain ⟨v, σ', e, _, f⟩ := w
  exact ⟨v, σ', e, RV_0 hv f⟩
theorem UM_W {α : Type} {o : Option (α × px_H)} (hv : RV σ fs gs ws n b a) (w : Sm m h (OWe σ) Any o) : UM m h fs gs ws n b a o := by
  obtain ⟨v, σ', e, _, f⟩ := w
  exact ⟨v, σ', e, RV_W hv f⟩
theorem u_look {x : Int32} (hm : m ≤ h.length) (hv : RV σ fs gs ws n b a) : UM m h fs gs ws n b a (f_M_look F m x (mh m h σ)) := UM_0 hv (sm_look hm (FR_refl σ))
theorem u_place {x : Int32} (hm : m ≤ h.length) (hv : RV σ fs gs ws n b a) : UM m h fs gs ws n b a (f_M_place F m x (mh m h σ)) := by
  obtain ⟨k, k1, k2⟩ := hv.2.2.2.2.2.2.2.1.2.1
  exact UM_0 hv (sm_place hm k1 k2 (FR_refl σ))
theorem u_section {x y : Int32} (hm : m ≤ h.length) (hv : RV σ fs gs ws n b a) : UM m h fs gs ws n b a (f_M_section F m x y (mh m h σ)) := by
  obtain ⟨k, k1, k2⟩ := hv.2.2.2.2.2.2.2.1.2.1
  exact UM_0 hv (sm_section hm k1 k2 (FR_refl σ))
theorem u_flags {x : Int64} (hm : m ≤ h.length) (hF : 65540 < F) (hv : RV σ fs gs ws n b a) : UM m h fs gs ws n b a (f_M_flags F m x (mh m h σ)) := UM_0 hv (sm_flags hm (by omega) hv.2.2.2.2.2.1 (FR_refl σ))
theorem u_peek {x : Int64} (hm : m ≤ h.length) (hF : 65540 < F) (hv : RV σ fs gs ws n b a) : UM m h fs gs ws n b a (f_M_peek F m x (mh m h σ)) := UM_0 hv (sm_peek hm (by omega) hv.2.2.2.2.2.1 (FR_refl σ))
theorem u_out {x : Int32} (hm : m ≤ h.length) (hF : 65540 < F) (hv : RV σ fs gs ws n b a) : UM m h fs gs ws n b a (f_M_out F m x (mh m h σ)) := by
  obtain ⟨k, k1, k2⟩ := hv.2.2.2.2.1.1
  exact UM_0 hv (sm_out hm (by omega) k1 k2 (FR_refl σ))
theorem u_taken {x y : Int32} (hm : m ≤ h.length) (hv : RV σ fs gs ws n b a) : UM m h fs gs ws n b a (f_M_taken F m x y (mh m h σ)) := UM_0 hv (sm_taken hm hv.2.1 (FR_refl σ))
theorem u_sum {x y z : Int32} (hm : m ≤ h.length) (hF : 65540 < F) (hv : RV σ fs gs ws n b a) : UM m h fs gs ws n b a (f_M_sum F m x y z (mh m h σ)) := UM_0 hv (sm_sum hm (by omega) hv.2.1 (FR_refl σ))
theorem u_list {x y : Int32} (hm : m ≤ h.length) (hF : 65540 < F) (hv : RV σ fs gs ws n b a) : UM m h fs gs ws n b a (f_M_list F m x y (mh m h σ)) := UM_W hv (sm_list hm hF hv.2.1 hv.2.2.2.2.1 (FR_refl σ))
theorem u_near {x : Int64} (hm : m ≤ h.length) (hF : 65540 < F) (hv : RV σ fs gs ws n b a) : UM m h fs gs ws n b a (f_M_near F m x (mh m h σ)) := UM_W hv (sm_near hm hF hv.2.2.2.2.2.1 hv.2.2.2.2.2.2.1 hv.2.2.2.2.1)
theorem u_map (hm : m ≤ h.length) (hF : 65540 < F) (hv : RV σ fs gs ws n b a) : UM m h fs gs ws n b a (f_M_map F m (mh m h σ)) := by
  have hl := hv.2.2.2.2.2.2.2.1.2.2
  by_cases c : gI σ 13 = 0
  · obtain ⟨nS, nD, zf, uf, gf, ff, mf, lf, df, hM⟩ := (hl c).1
    exact UM_W hv (sm_map hm hF hv.2.2.2.2.1 (fun _ => hM))
  · exact UM_W hv (sm_map (nS := 0) (nD := 0) (zf := id) (uf := id) (gf := id) (ff := id) (mf := id) (lf := id) (df := id) hm hF hv.2.2.2.2.1 (fun q => absurd q c))
theorem u_named (hm : m ≤ h.length) (hF : 65540 < F) (hv : RV σ fs gs ws n b a) : UM m h fs gs ws n b a (f_M_named F m (mh m h σ)) := by
  have hl := hv.2.2.2.2.2.2.2.1.2.2
  by_cases c : gI σ 13 = 0
  · obtain ⟨e, nD, th, lf, df, hM⟩ := (hl c).2
    exact UM_W hv (sm_named hm hF hv.2.2.2.2.1 (fun _ => hM))
  · exact UM_W hv (sm_named (e := 0) (nD := 0) (th := fun _ => false) (lf := id) (df := id) hm hF hv.2.2.2.2.1 (fun q => absurd q c))
theorem u_cause {x y : Int32} (hm : m ≤ h.length) (hF : 65540 < F) (hv : RV σ fs gs ws n b a) : UM m h fs gs ws n b a (f_M_cause F m x y (mh m h σ)) := by
  obtain ⟨nms, h1, h2⟩ := hv.2.2.2.2.2.2.2.1.1
  obtain ⟨v, σ', e, _, f, ho⟩ := sm_cause (F := F) (a1 := x) (a2 := y) hm (by omega) hv.2.1 h1 h2 hv.2.2.2.2.1 (FR_refl σ)
  exact ⟨v, σ', e, RV_out hv (FR_mono f (by decide) (by decide) (by decide) (by decide)) ho⟩
theorem u_pack (hm : m ≤ h.length) (hF : 65540 < F) (hv : RV σ fs gs ws n b a) : UM m h fs gs ws n b a (f_M_pack F m (mh m h σ)) := by
  obtain ⟨v, σ', e, _, f, ho⟩ := sm_pack (F := F) hm hF hv.2.1 hv.2.2.2.2.1
  exact ⟨v, σ', e, RV_out hv (FR_mono f (by decide) (by decide) (by decide) (by decide)) ho⟩
theorem u_boot {x : Int32} (hm : m ≤ h.length) (hF : 65540 < F) (hv : RV σ fs gs ws n b a) : UM m h fs gs ws (if x = 0 then n else 0) (if x = 0 then b else fun _ => 0) a (f_M_boot F m x (mh m h σ)) := by
  obtain ⟨v1, v2, v3, v4, v5, v6, v7, v8⟩ := hv
  obtain ⟨v, σ', e, _, f, e2, g1, g2⟩ := sm_boot (F := F) (a1 := x) hm hF v1 v5 v6 v7
  refine ⟨v, σ', e, ?_, RF_FR v2 f (by decide) (by decide), RG_FR v3 f (by decide) (by decide) (by decide), RW_FR v4 f (by decide) (by decide), OUo_FR v5 f (by decide) (by decide), g1, g2, RVc_FR v8 f (by decide) (by decide)⟩
  have e1 : gA σ' 1 = gA σ 1 := f.2.2.1 1 (by decide)
  by_cases c : x = 0
  · rw [if_pos c] at e2
    rw [if_pos c, if_pos c]
    exact ⟨e2.trans v1.1, v1.2.1, by rw [e1]; exact v1.2.2.1, by rw [e1]; exact v1.2.2.2⟩
  · rw [if_neg c] at e2
    rw [if_neg c, if_neg c]
    refine ⟨e2, Nat.zero_le _, by rw [e1]; exact v1.2.2.1, ?_⟩
    funext y
    unfold cb
    rw [if_neg (Nat.not_lt_zero y)]
end MRV
