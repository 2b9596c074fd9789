/-! findPool of the reference, as a whole -/
def pS (tO : Nat → Nat) (tb : Nat → Nat → Nat) (x : Nat) : Nat := tO (x / 24) + oP (tb (x / 24)) (x % 24)
def zS (tb : Nat → Nat → Nat) (x : Nat) : Nat := oZ (tb (x / 24)) (x % 24)
def sS (tb : Nat → Nat → Nat) (x : Nat) : Bool := oStr (tb (x / 24)) (x % 24)
def s0F (B : Nat → Nat) (tO : Nat → Nat) (tb : Nat → Nat → Nat) (nd : List (List Nat)) (x : Nat) : List (List Nat) := if sS tb x = true then itr (fp0 B (pS tO tb x)) 0 (zS tb x) nd else nd
def s1F (B : Nat → Nat) (nd : List (List Nat)) (tO : Nat → Nat) (tb : Nat → Nat → Nat) (pf : List Nat) (x : Nat) : List Nat := if sS tb x = true then itr (fp1 B nd (pS tO tb x)) 0 (zS tb x) pf else pf
def nd0 (B : Nat → Nat) (tO : Nat → Nat) (tb : Nat → Nat → Nat) (ll : List Nat) : List (List Nat) := ll.foldl (s0F B tO tb) [[]]
def pf0 (B : Nat → Nat) (tO : Nat → Nat) (tb : Nat → Nat → Nat) (ll : List Nat) : List Nat := ll.foldl (s1F B (nd0 B tO tb ll) tO tb) []
theorem fp0_mono {B : Nat → Nat} {p j : Nat} {nd : List (List Nat)} {w : List Nat} (h : w ∈ nd) : w ∈ fp0 B p j nd := by
  unfold fp0
  split
  · exact (ndS_mem j nd).mpr (Or.inl h)
  · exact h
theorem fp0s_mono {B : Nat → Nat} {p c j : Nat} {nd : List (List Nat)} {w : List Nat} (h : w ∈ nd) : w ∈ itr (fp0 B p) j c nd :=
  itr_inv (g := fp0 B p) (P := fun nd => w ∈ nd) (a := 0) (e := j + c) (fun i s _ _ hs => fp0_mono hs) c j nd (Nat.zero_le _) (Nat.le_refl _) h
theorem fp0s_all {B : Nat → Nat} {p Z : Nat} {nd : List (List Nat)} : allN B (itr (fp0 B p) 0 Z nd) p Z := by
  intro j hj hz
  exact (itr_hit (g := fp0 B p) (M := fun i s => B (p + i) = 0 → ∀ x, frm B p i ≤ x → x < p + i → st B x ∈ s) (v := fun i => i) (Q := fun _ => True) (a := 0) (e := Z) (fun i s w _ _ hw h0 x h1 h2 => fp0_mono (hw h0 x h1 h2)) (fun i s _ _ _ h0 x h1 h2 => by
    unfold fp0
    rw [if_pos h0]
    exact (ndS_mem i s).mpr (Or.inr ⟨x, h1, h2, rfl⟩)) Z 0 nd (Nat.le_refl _) (by omega)).2 j (Nat.zero_le _) (by omega) trivial hz
theorem s0F_mono {B : Nat → Nat} {tO : Nat → Nat} {tb : Nat → Nat → Nat} {w : List Nat} : ∀ (l : List Nat) (nd : List (List Nat)), w ∈ nd → w ∈ l.foldl (s0F B tO tb) nd := by
  intro l
  induction l with
  | nil => intro nd h; exact h
  | cons x l ih =>
    intro nd h
    rw [List.foldl_cons]
    refine ih _ ?_
    unfold s0F
    split
    · exact fp0s_mono h
    · exact h
theorem nd0_all {B : Nat → Nat} {tO : Nat → Nat} {tb : Nat → Nat → Nat} {x : Nat} (hs : sS tb x = true) : ∀ (l : List Nat) (nd : List (List Nat)), x ∈ l → allN B (l.foldl (s0F B tO tb) nd) (pS tO tb x) (zS tb x) := by
  intro l
  induction l with
  | nil => intro nd h; exact absurd h List.not_mem_nil
  | cons y l ih =>
    intro nd h
    rw [List.foldl_cons]
    rcases List.mem_cons.mp h with e | e
    · intro j hj h0 z h1 h2
      refine s0F_mono l _ ?_
      rw [← e]
      unfold s0F
      rw [if_pos hs]
      exact fp0s_all j hj h0 z h1 h2
    · exact ih _ e
/-- what findPool reads -/
def RWp (σ : px_S) (T : Nat) (tO tn tq : Nat → Nat) (tb : Nat → Nat → Nat) (ll : List Nat) (B : Nat → Nat) : Prop := (∀ t, t < T → OB σ t (tO t) (tn t) (tb t)) ∧ RLa σ tq tb ll ∧ RB σ B
theorem RWp_FR {σ σ' : px_S} {I J A Bs : List Nat} {T : Nat} {tO tn tq : Nat → Nat} {tb : Nat → Nat → Nat} {ll : List Nat} {B : Nat → Nat} (h : RWp σ T tO tn tq tb ll B) (f : FR I J A Bs σ σ') (h50 : 50 ∉ I) (hA : ∀ k, k ∈ [6, 9, 17, 51, 52, 53, 54, 55, 56] → k ∉ A) : RWp σ' T tO tn tq tb ll B :=
  ⟨fun t ht => OB_FR (h.1 t ht) f ⟨hA 6 (by decide), hA 9 (by decide), hA 17 (by decide)⟩, RLa_FR h.2.1 f h50 (fun k hk => hA k (by revert k; decide)), RB_FR h.2.2 f (hA 6 (by decide))⟩
def llP (T : Nat) (tb : Nat → Nat → Nat) (ll : List Nat) : Prop := ll.length ≤ 1536 ∧ ∀ x, x ∈ ll → x / 24 < T ∧ 1 ≤ x % 24 ∧ x % 24 < oS (tb (x / 24))
section MFQ
variable {F m T : Nat} {h : px_H} {B : Nat → Nat} {tO tn tq : Nat → Nat} {tb : Nat → Nat → Nat} {ll : List Nat} {k26 : Nat → Int32 → px_H → Option (Unit × px_H)}
theorem sS_in {σ : px_S} {x : Nat} (hW : RWp σ T tO tn tq tb ll B) (hx : x / 24 < T ∧ 1 ≤ x % 24 ∧ x % 24 < oS (tb (x / 24))) (hs : sS tb x = true) : pS tO tb x + zS tb x ≤ 65536 := by
  have hb := hW.1 _ hx.1
  unfold sS at hs
  have : oStr0 (tb (x / 24)) (x % 24) = true := by unfold oStr at hs; rw [Bool.and_eq_true] at hs; exact hs.1
  unfold oStr0 at this
  have := of_decide_eq_true this
  have h1 := oK_in (OB_w hb).1 hx.2.2 this.1 this.2.1
  have h2 := hb.2.2.1
  unfold pS zS
  omega
theorem q_fP_33a (hm : m ≤ h.length) (hF : 65540 < F) (hl : llP T tb ll) : ∀ (c P g : Nat) (σ : px_S) (nd : List (List Nat)) (pf : List Nat), P + c = ll.length → c < g → RWp σ T tO tn tq tb ll B → ndB B nd → RPo σ B nd pf → ∃ σ', f_M_findPool_33 F k26 g m (nI 0) (nI P) (mh m h σ) = k26 m (nI 1) (mh m h σ') ∧ RPo σ' B ((ll.drop P).foldl (s0F B tO tb) nd) pf ∧ ndB B ((ll.drop P).foldl (s0F B tO tb) nd) ∧ FR [89] [] trA [] σ σ' := by
  intro c
  induction c with
  | zero =>
    intro P g σ nd pf hP hg hW hn hr
    obtain ⟨g, rfl⟩ : ∃ x, g = x + 1 := ⟨g - 1, by omega⟩
    have := hl.1
    unfold f_M_findPool_33 f_M_findPool_172
    rw [Mg50 hm, bs, hW.2.1.1, if_pos (nI_le (by omega) (by omega)), nI_add, List.drop_eq_nil_of_le (by omega)]
    exact ⟨σ, rfl, hr, hn, FR_refl σ⟩
  | succ c ih =>
    intro P g σ nd pf hP hg hW hn hr
    obtain ⟨g, rfl⟩ : ∃ x, g = x + 1 := ⟨g - 1, by omega⟩
    have hl1 := hl.1
    have hPl : P < ll.length := by omega
    have hx := List.getElem?_eq_getElem hPl
    rw [List.drop_eq_getElem_cons hPl, List.foldl_cons]
    have hx2 := hl.2 _ (List.getElem_mem hPl)
    generalize ll[P] = x at *
    have hb := hW.1 _ hx2.1
    obtain ⟨r1, r2, r3, r4, r5, r6⟩ := hW.2.1.2 P x hx
    unfold f_M_findPool_33 f_M_findPool_166
    rw [Mg50 hm, bs, hW.2.1.1, if_neg (nI_ge (by omega) (by omega)), Mr51 hm, bs, Ma51 hm (by omega), bs, r1, e_o hm, bs, O_obj hm hb, xb_mk, Mr54 hm, bs, Ma54 hm (by omega), bs, r4, e_o hm, bs, q_isStrings hm (by omega) hb hx2.2.2, xb_mk, nI_add]
    cases es : oStr (tb (x / 24)) (x % 24) with
    | false =>
      have e0 : s0F B tO tb nd x = nd := by unfold s0F sS; rw [es, if_neg (by decide)]
      rw [if_pos (show bI false = 0 from rfl), e0]
      exact ih (P + 1) g σ nd pf (by omega) (by omega) hW hn hr
    | true =>
      have hin := sS_in hW hx2 es
      have e0 : s0F B tO tb nd x = itr (fp0 B (pS tO tb x)) 0 (zS tb x) nd := by unfold s0F sS; rw [es, if_pos rfl]
      rw [if_neg (show ¬ bI true = 0 by decide), Mr54 hm, bs, Ma54 hm (by omega), bs, r4, e_o hm, bs, O_beg hm (by omega) hb hx2.2.2, xb_mk, lN_i, nI_add, e0]
      obtain ⟨σ1, a1, a2, a3, a4⟩ := q_fP_89a (F := F) (h := h) (k26 := k26) (k33 := f_M_findPool_33 F k26 g) (p := pS tO tb x) (P := P) (Z := zS tb x) hm hF (by omega) hin (zS tb x) 0 F σ nd pf (by omega) (by omega) hW.2.2 r6 hn hr
      rw [Nat.add_zero] at a1
      rw [show tO (x / 24) + oP (tb (x / 24)) (x % 24) = pS tO tb x from rfl, a1]
      obtain ⟨σ2, b1, b2, b3, b4⟩ := ih (P + 1) g σ1 _ pf (by omega) (by omega) (RWp_FR hW a4 (by decide) (by decide)) a3 a2
      exact ⟨σ2, b1, b2, b3, FR_trans a4 b4⟩
theorem q_fP_33b {nd : List (List Nat)} (hm : m ≤ h.length) (hF : 65540 < F) (hl : llP T tb ll) (hn : ndB B nd) (hnil : [] ∈ nd) (hal : ∀ x, x ∈ ll → sS tb x = true → allN B nd (pS tO tb x) (zS tb x)) : ∀ (c P g : Nat) (σ : px_S) (pf : List Nat), P + c = ll.length → c < g → RWp σ T tO tn tq tb ll B → RPo σ B nd pf → PIn B nd pf → ∃ σ', f_M_findPool_33 F k26 g m (nI 1) (nI P) (mh m h σ) = k26 m (nI 2) (mh m h σ') ∧ RPo σ' B nd ((ll.drop P).foldl (s1F B nd tO tb) pf) ∧ PIn B nd ((ll.drop P).foldl (s1F B nd tO tb) pf) ∧ FR [88, 89] [] poA [] σ σ' := by
  intro c
  induction c with
  | zero =>
    intro P g σ pf hP hg hW hr hI
    obtain ⟨g, rfl⟩ : ∃ x, g = x + 1 := ⟨g - 1, by omega⟩
    have := hl.1
    unfold f_M_findPool_33 f_M_findPool_172
    rw [Mg50 hm, bs, hW.2.1.1, if_pos (nI_le (by omega) (by omega)), nI_add, List.drop_eq_nil_of_le (by omega)]
    exact ⟨σ, rfl, hr, hI, FR_refl σ⟩
  | succ c ih =>
    intro P g σ pf hP hg hW hr hI
    obtain ⟨g, rfl⟩ : ∃ x, g = x + 1 := ⟨g - 1, by omega⟩
    have hl1 := hl.1
    have hPl : P < ll.length := by omega
    have hx := List.getElem?_eq_getElem hPl
    rw [List.drop_eq_getElem_cons hPl, List.foldl_cons]
    have hx2 := hl.2 _ (List.getElem_mem hPl)
    have hx3 := hal _ (List.getElem_mem hPl)
    generalize ll[P] = x at *
    have hb := hW.1 _ hx2.1
    obtain ⟨r1, r2, r3, r4, r5, r6⟩ := hW.2.1.2 P x hx
    unfold f_M_findPool_33 f_M_findPool_166
    rw [Mg50 hm, bs, hW.2.1.1, if_neg (nI_ge (by omega) (by omega)), Mr51 hm, bs, Ma51 hm (by omega), bs, r1, e_o hm, bs, O_obj hm hb, xb_mk, Mr54 hm, bs, Ma54 hm (by omega), bs, r4, e_o hm, bs, q_isStrings hm (by omega) hb hx2.2.2, xb_mk, nI_add]
    cases es : oStr (tb (x / 24)) (x % 24) with
    | false =>
      have e0 : s1F B nd tO tb pf x = pf := by unfold s1F sS; rw [es, if_neg (by decide)]
      rw [if_pos (show bI false = 0 from rfl), e0]
      exact ih (P + 1) g σ pf (by omega) (by omega) hW hr hI
    | true =>
      have hin := sS_in hW hx2 es
      have e0 : s1F B nd tO tb pf x = itr (fp1 B nd (pS tO tb x)) 0 (zS tb x) pf := by unfold s1F sS; rw [es, if_pos rfl]
      rw [if_neg (show ¬ bI true = 0 by decide), Mr54 hm, bs, Ma54 hm (by omega), bs, r4, e_o hm, bs, O_beg hm (by omega) hb hx2.2.2, xb_mk, lN_i, nI_add, e0]
      obtain ⟨σ1, a1, a2, a3, a4⟩ := q_fP_89b (F := F) (h := h) (k26 := k26) (k33 := f_M_findPool_33 F k26 g) (p := pS tO tb x) (P := P) (Z := zS tb x) hm hF (by omega) hin hn (hx3 es) hnil (zS tb x) 0 F σ pf (by omega) (by omega) hW.2.2 r6 hr hI
      rw [Nat.add_zero] at a1
      rw [show tO (x / 24) + oP (tb (x / 24)) (x % 24) = pS tO tb x from rfl, a1]
      obtain ⟨σ2, b1, b2, b3, b4⟩ := ih (P + 1) g σ1 _ (by omega) (by omega) (RWp_FR hW a4 (by decide) (by decide)) a2 a3
      exact ⟨σ2, b1, b2, b3, FR_trans a4 b4⟩
theorem q_findPool {σ : px_S} (hm : m ≤ h.length) (hF : 65540 < F) (hl : llP T tb ll) (hW : RWp σ T tO tn tq tb ll B) (h91 : ∀ k, isB (gA σ 91 k)) : ∃ σ', f_M_findPool F m (mh m h σ) = some ((), mh m h σ') ∧ RPo σ' B (nd0 B tO tb ll) (pf0 B tO tb ll) ∧ PIn B (nd0 B tO tb ll) (pf0 B tO tb ll) ∧ ndB B (nd0 B tO tb ll) ∧ FR [88, 89] [] poA [] σ σ' := by
  obtain ⟨σ1, hσ1⟩ : ∃ x, x = sI (sA (sA (sI σ 89 (nI 2)) 92 (upd (gA σ 92) 1 (nI 0))) 94 (upd (gA σ 94) 1 (Int32.ofInt (-1)))) 88 (nI 0) := ⟨_, rfl⟩
  have f1 : FR [88, 89] [] poA [] σ σ1 := by
    rw [hσ1]
    exact FR_trans (FR_mono (FR_I σ 89 _) (by decide) (by decide) (by decide) (by decide)) (FR_trans (FR_mono (FR_A _ 92 _) (by decide) (by decide) (by decide) (by decide)) (FR_trans (FR_mono (FR_A _ 94 _) (by decide) (by decide) (by decide) (by decide)) (FR_mono (FR_I _ 88 _) (by decide) (by decide) (by decide) (by decide))))
  have g92 : gA σ1 92 = upd (gA σ 92) 1 (nI 0) := by rw [hσ1]; rfl
  have g94 : gA σ1 94 = upd (gA σ 94) 1 (Int32.ofInt (-1)) := by rw [hσ1]; rfl
  have g91 : gA σ1 91 = gA σ 91 := by rw [hσ1]; rfl
  have hr1 : RPo σ1 B [[]] [] := by
    refine ⟨⟨by rw [hσ1]; rfl, rfl, List.nodup_cons.mpr ⟨List.not_mem_nil, List.nodup_nil⟩, fun s hs x hx => ?_, fun c v hv => ?_, fun k u hu => ?_⟩, ⟨fun k u hu => ?_, fun u _ => rfl⟩, by rw [hσ1]; rfl, by rw [g91]; exact h91⟩
    · rw [List.mem_singleton.mp hs] at hx; exact absurd hx List.not_mem_nil
    · have := List.mem_singleton.mp hv; cases this
    · have hk := (List.getElem?_eq_some_iff.mp hu).1
      have hk : k < 1 := hk
      have ek : k = 0 := by omega
      rw [ek] at hu ⊢
      have hu : [] = u := Option.some.inj hu
      rw [g92, ← hu]
      exact ⟨upd_eq, fun c v hv => nomatch hv⟩
    · have hk := (List.getElem?_eq_some_iff.mp hu).1
      have hk : k < 1 := hk
      have ek : k = 0 := by omega
      rw [ek, g94]
      exact upd_eq
  have hn1 : ndB B [[]] := fun s hs => ⟨65536, by decide, by rw [List.mem_singleton.mp hs]; rfl⟩
  have hW1 := RWp_FR hW f1 (by decide) (by decide)
  have hl1 := hl.1
  obtain ⟨F1, hF1⟩ : ∃ x, F = x + 3 := ⟨F - 3, by omega⟩
  obtain ⟨σ2, a1, a2, a3, a4⟩ := q_fP_33a (F := F) (h := h) (k26 := f_M_findPool_26 F (F1 + 2)) hm hF hl ll.length 0 F σ1 [[]] [] (by omega) (by omega) hW1 hn1 hr1
  rw [List.drop_zero] at a2 a3
  have hnil : [] ∈ nd0 B tO tb ll := s0F_mono ll _ List.mem_cons_self
  obtain ⟨σ3, b1, b2, b3, b4⟩ := q_fP_33b (F := F) (h := h) (k26 := f_M_findPool_26 F (F1 + 1)) (nd := nd0 B tO tb ll) hm hF hl a3 hnil (fun x hx hs => nd0_all hs ll _ hx) ll.length 0 F σ2 [] (by omega) (by omega) (RWp_FR hW1 a4 (by decide) (by decide)) a2 ⟨List.nodup_nil, fun f hf => absurd hf List.not_mem_nil⟩
  rw [List.drop_zero] at b2 b3
  refine ⟨σ3, ?_, b2, b3, a3, FR_trans f1 (FR_trans (FR_mono a4 (by decide) (by decide) (by decide) (by decide)) b4)⟩
  unfold f_M_findPool
  rw [Mp89 hm, bs, Mr92 hm, bs, show nI 1 = nI (0 + 1) from rfl, Ms92 hm (by omega), bs, Mr94 hm, bs, Ms94 hm (by omega), bs, Mp88 hm, bs]
  rw [show mh m h (sI (sA (sA (sI σ 89 (nI 2)) 92 (upd (gA (sI σ 89 (nI 2)) 92) (0 + 1) (nI 0))) 94 (upd (gA (sA (sI σ 89 (nI 2)) 92 (upd (gA (sI σ 89 (nI 2)) 92) (0 + 1) (nI 0))) 94) (0 + 1) (Int32.ofInt (-1)))) 88 (nI 0)) = mh m h σ1 by rw [hσ1]; rfl]
  rw [show f_M_findPool_26 F F m = f_M_findPool_26 F (F1 + 3) m by rw [← hF1]]
  unfold f_M_findPool_26 f_M_findPool_178
  rw [if_neg (by decide), a1]
  unfold f_M_findPool_26 f_M_findPool_178
  rw [if_neg (by decide), b1]
  unfold f_M_findPool_26 f_M_findPool_178
  rw [if_pos (by decide)]
end MFQ
