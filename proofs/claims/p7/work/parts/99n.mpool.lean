/-! findPool of the reference -/
def fp0 (B : Nat → Nat) (p j : Nat) (nd : List (List Nat)) : List (List Nat) := if B (p + j) = 0 then ndS B p j nd else nd
def fp1 (B : Nat → Nat) (nd : List (List Nat)) (p j : Nat) (pf : List Nat) : List Nat := if B (p + j) = 0 ∧ lst nd (st B (frm B p j)) (nd.length + 1) = 0 ∧ peO B 0 pf (st B (frm B p j)) = none then pf ++ [frm B p j] else pf
theorem lst_0 {nd : List (List Nat)} {u : List Nat} : lst nd u (nd.length + 1) = 0 ↔ noC nd u := by
  have key : ∀ lim, lst nd u lim = 0 ↔ ∀ k, k < lim → chB nd u k = false := by
    intro lim
    induction lim with
    | zero => exact ⟨fun _ k hk => absurd hk (Nat.not_lt_zero k), fun _ => rfl⟩
    | succ n ih =>
      rw [lst_s]
      by_cases c : chB nd u n = true
      · rw [if_pos c]
        constructor
        · intro e
          rw [e] at c
          exact nomatch c
        · intro hh
          rw [hh n (Nat.lt_succ_self n)] at c
          cases c
      · rw [if_neg c, ih]
        exact ⟨fun hh k hk => by
          by_cases e : k = n
          · rw [e]; exact Bool.eq_false_iff.mpr c
          · exact hh k (by omega), fun hh k hk => hh k (by omega)⟩
  rw [key]
  constructor
  · intro hh c hc
    obtain ⟨i, hi⟩ := List.getElem?_of_mem hc
    have := hh (i + 1) (by have := (List.getElem?_eq_some_iff.mp hi).1; omega)
    rw [chB_iff.mpr ⟨c, hi⟩] at this
    cases this
  · intro hh k hk
    cases k with
    | zero => rfl
    | succ k =>
      refine Bool.eq_false_iff.mpr (fun q => ?_)
      obtain ⟨c, hc⟩ := chB_iff.mp q
      exact hh c (List.mem_of_getElem? hc)
section MFP
variable {F m p P Z : Nat} {h : px_H} {B : Nat → Nat} {k26 : Nat → Int32 → px_H → Option (Unit × px_H)} {k33 : Nat → Int32 → Int32 → px_H → Option (Unit × px_H)}
theorem RPo_FR {σ σ' : px_S} {I J A Bs : List Nat} {nd : List (List Nat)} {pf : List Nat} (hr : RPo σ B nd pf) (f : FR I J A Bs σ σ') (hI : 88 ∉ I ∧ 89 ∉ I) (hA : ∀ k, k ∈ poA → k ∉ A) : RPo σ' B nd pf :=
  ⟨TR_FR hr.1 f hI.2 ⟨hA 92 (by decide), hA 93 (by decide), hA 95 (by decide)⟩, ⟨fun k u hu => by rw [f.2.2.1 94 (hA 94 (by decide))]; exact hr.2.1.1 k u hu, hr.2.1.2⟩, (f.1 88 hI.1).trans hr.2.2.1, by rw [f.2.2.1 91 (hA 91 (by decide))]; exact hr.2.2.2⟩
theorem q_nodeOf {σ : px_S} {nd : List (List Nat)} {pf : List Nat} {d : Nat} (hm : m ≤ h.length) (hF : 65540 < F) (hb : RB σ B) (hn : ndB B nd) (hr : RPo σ B nd pf) (hp : p + d ≤ 65535) (h0 : B (p + d) = 0) : ∃ σ' k', f_M_nodeOf F m (nI p) (nI (p + d)) (nI 1) (mh m h σ) = some (nI (k' + 1), mh m h σ') ∧ (ndS B p d nd)[k']? = some (st B (frm B p d)) ∧ RPo σ' B (ndS B p d nd) pf ∧ ndB B (ndS B p d nd) ∧ ((∀ x, frm B p d ≤ x → x < p + d → st B x ∈ nd) → σ' = σ) ∧ FR [89] [] trA [] σ σ' := by
  obtain ⟨ht, hq, h88, h91⟩ := hr
  obtain ⟨σ', k', a1, a2, a3, a4, a5, a6, a7⟩ := q_nO_8 (F := F) (h := h) (p := p) hm hF d 0 F σ nd (by omega) hp hb ht hn hq (by rw [st_0 (by omega) h0]; exact ht.2.1)
  exact ⟨σ', k', a1, a2, ⟨a3, a5, (a7.1 88 (by decide)).trans h88, by rw [a7.2.2.1 91 (by decide)]; exact h91⟩, a4, a6, a7⟩
theorem q_fP_89a (hm : m ≤ h.length) (hF : 65540 < F) (hP : P < 1536) (hZ : p + Z ≤ 65536) : ∀ (c j g : Nat) (σ : px_S) (nd : List (List Nat)) (pf : List Nat), j + c = Z → c < g → RB σ B → gA σ 56 P = nI Z → ndB B nd → RPo σ B nd pf → ∃ σ', f_M_findPool_89 F k26 k33 g m (nI 0) (nI P) (nI p) (nI (p + j)) (mh m h σ) = k33 m (nI 0) (nI (P + 1)) (mh m h σ') ∧ RPo σ' B (itr (fp0 B p) j c nd) pf ∧ ndB B (itr (fp0 B p) j c nd) ∧ FR [89] [] trA [] σ σ' := by
  intro c
  induction c with
  | zero =>
    intro j g σ nd pf hj hg hb h56 hn hr
    obtain ⟨g, rfl⟩ : ∃ x, g = x + 1 := ⟨g - 1, by omega⟩
    unfold f_M_findPool_89 f_M_findPool_166
    rw [Mr56 hm, bs, Ma56 hm hP, bs, h56, nI_add, if_pos (nI_le (by omega) (by omega)), nI_add]
    exact ⟨σ, rfl, hr, hn, FR_refl σ⟩
  | succ c ih =>
    intro j g σ nd pf hj hg hb h56 hn hr
    obtain ⟨g, rfl⟩ : ∃ x, g = x + 1 := ⟨g - 1, by omega⟩
    unfold f_M_findPool_89 f_M_findPool_160
    rw [Mr56 hm, bs, Ma56 hm hP, bs, h56, nI_add, if_neg (nI_ge (by omega) (by omega)), Mr6 hm, bs, Ma6 hm (by omega), bs, itr_s, nI_add]
    by_cases c0 : B (p + j) = 0
    · obtain ⟨σ1, k1, a1, a2, a3, a4, a5, a6⟩ := q_nodeOf (F := F) (h := h) (p := p) (d := j) hm hF hb hn hr (by omega) c0
      have e0 : fp0 B p j nd = ndS B p j nd := by unfold fp0; rw [if_pos c0]
      rw [if_pos ((RB_0 hb _).mpr c0), e_o hm, bs, a1, xb_mk, if_neg (show ¬ nI 0 = nI 1 by decide), e0]
      obtain ⟨σ2, b1, b2, b3, b4⟩ := ih (j + 1) g σ1 _ pf (by omega) (by omega) (RB_FR hb a6 (by decide)) (by rw [a6.2.2.1 56 (by decide)]; exact h56) a4 a3
      exact ⟨σ2, b1, b2, b3, FR_trans a6 b4⟩
    · have e0 : fp0 B p j nd = nd := by unfold fp0; rw [if_neg c0]
      rw [if_neg (fun q => c0 ((RB_0 hb _).mp q)), e0]
      exact ih (j + 1) g σ nd pf (by omega) (by omega) hb h56 hn hr
/-- all strings' ends of a section are nodes -/
def allN (B : Nat → Nat) (nd : List (List Nat)) (p Z : Nat) : Prop := ∀ j, j < Z → B (p + j) = 0 → ∀ x, frm B p j ≤ x → x < p + j → st B x ∈ nd
theorem q_fP_89b {nd : List (List Nat)} (hm : m ≤ h.length) (hF : 65540 < F) (hP : P < 1536) (hZ : p + Z ≤ 65536) (hn : ndB B nd) (hal : allN B nd p Z) (hnil : [] ∈ nd) : ∀ (c j g : Nat) (σ : px_S) (pf : List Nat), j + c = Z → c < g → RB σ B → gA σ 56 P = nI Z → RPo σ B nd pf → PIn B nd pf → ∃ σ', f_M_findPool_89 F k26 k33 g m (nI 1) (nI P) (nI p) (nI (p + j)) (mh m h σ) = k33 m (nI 1) (nI (P + 1)) (mh m h σ') ∧ RPo σ' B nd (itr (fp1 B nd p) j c pf) ∧ PIn B nd (itr (fp1 B nd p) j c pf) ∧ FR [88, 89] [] poA [] σ σ' := by
  have hN : ∀ σ pf, RPo σ B nd pf → nd.length ≤ 65537 := fun σ pf hr => nodup_img (f := st B) 65537 _ hr.1.2.2.1 hn
  intro c
  induction c with
  | zero =>
    intro j g σ pf hj hg hb h56 hr hI
    obtain ⟨g, rfl⟩ : ∃ x, g = x + 1 := ⟨g - 1, by omega⟩
    unfold f_M_findPool_89 f_M_findPool_166
    rw [Mr56 hm, bs, Ma56 hm hP, bs, h56, nI_add, if_pos (nI_le (by omega) (by omega)), nI_add]
    exact ⟨σ, rfl, hr, hI, FR_refl σ⟩
  | succ c ih =>
    intro j g σ pf hj hg hb h56 hr hI
    obtain ⟨g, rfl⟩ : ∃ x, g = x + 1 := ⟨g - 1, by omega⟩
    unfold f_M_findPool_89 f_M_findPool_160
    rw [Mr56 hm, bs, Ma56 hm hP, bs, h56, nI_add, if_neg (nI_ge (by omega) (by omega)), Mr6 hm, bs, Ma6 hm (by omega), bs, itr_s, nI_add]
    have skip : fp1 B nd p j pf = pf → ∃ σ', f_M_findPool_89 F k26 k33 g m (nI 1) (nI P) (nI p) (nI (p + j + 1)) (mh m h σ) = k33 m (nI 1) (nI (P + 1)) (mh m h σ') ∧ RPo σ' B nd (itr (fp1 B nd p) (j + 1) c (fp1 B nd p j pf)) ∧ PIn B nd (itr (fp1 B nd p) (j + 1) c (fp1 B nd p j pf)) ∧ FR [88, 89] [] poA [] σ σ' := fun e => by
      rw [e]
      exact ih (j + 1) g σ pf (by omega) (by omega) hb h56 hr hI
    by_cases c0 : B (p + j) = 0
    · obtain ⟨σ1, k1, a1, a2, a3, a4, a5, a6⟩ := q_nodeOf (F := F) (h := h) (p := p) (d := j) hm hF hb hn hr (by omega) c0
      have hal2 := hal j (by omega) c0
      have e5 := a5 hal2
      have hf := frm_le (B := B) (p := p) j
      have hin : st B (frm B p j) ∈ nd := by
        by_cases q : frm B p j < p + j
        · exact hal2 _ (Nat.le_refl _) q
        · rw [show frm B p j = p + j by omega, st_0 (by omega) c0]; exact hnil
      obtain ⟨i, hi⟩ := Option.isSome_iff_exists.mp (idx_iff.mpr hin)
      have hil := idx_lt hi
      have hi2 : nd[i]? = some (st B (frm B p j)) := by have := idx_some hi; rw [Nat.sub_zero] at this; exact this
      have hk1 : k1 = i := by
        have h3 := idx_nd a3.1.2.2.1 a2
        have key : ∀ (x : List Nat), x ∈ ndS B p j nd → x ∈ nd := fun x hx => by
          rcases (ndS_mem j nd).mp hx with q | ⟨y, y1, y2, y3⟩
          · exact q
          · rw [y3]; exact hal2 y y1 y2
        have hnd : ndS B p j nd = nd := by
          have gen : ∀ (d : Nat), (∀ x, frm B p d ≤ x → x < p + d → st B x ∈ nd) → ndS B p d nd = nd := by
            intro d
            induction d with
            | zero => intro _; rfl
            | succ d ihd =>
              intro hh
              rw [ndS_s]
              by_cases cb : B (p + d) = 0
              · rw [if_pos cb]
              · rw [if_neg cb]
                rw [frm_s, if_neg cb] at hh
                have hfd := frm_le (B := B) (p := p) d
                have e1 : ent (st B (p + d)) nd = nd := by unfold ent; rw [if_pos (idx_iff.mpr (hh (p + d) hfd.2.1 (by omega)))]
                rw [e1]
                exact ihd (fun x h1 h2 => hh x h1 (by omega))
          exact gen j hal2
        rw [hnd] at h3
        rw [hi] at h3
        exact (Option.some.inj h3).symm
      rw [e5, hk1] at a1
      have h92 := (hr.1.2.2.2.2.2 i _ hi2).1
      have h94 := hr.2.1.1 i _ hi2
      have hNN := hN σ pf hr
      have hll := lst_le (nd := nd) (u := st B (frm B p j)) (nd.length + 1)
      rw [if_pos ((RB_0 hb _).mpr c0), e_o hm, bs, a1, xb_mk, if_pos rfl, Mr92 hm, bs, Ma92 hm (by omega), bs, h92]
      by_cases c1 : lst nd (st B (frm B p j)) (nd.length + 1) = 0
      · rw [if_pos (by rw [c1]; rfl), Mr94 hm, bs, Ma94 hm (by omega), bs, h94]
        cases ep : peO B 0 pf (st B (frm B p j)) with
        | some y =>
          have hy := peO_le ep
          have hsz := PIn_sz hI
          rw [if_pos (show (0 : Int32) ≤ tdA (some y) from nI_0le (by omega))]
          exact skip (by unfold fp1; rw [if_neg (fun q => by rw [ep] at q; exact nomatch q.2.2)])
        | none =>
          rw [if_neg (show ¬ (0 : Int32) ≤ tdA none by decide), e_o hm, bs]
          obtain ⟨σ2, b1, b2, b3, b4⟩ := q_toPool (F := F) (h := h) (p := p) (d := j) hm hF hb hn hr hI (by omega) c0 hin (lst_0.mp c1) ep
          rw [b1, xb_mk]
          have e1 : fp1 B nd p j pf = pf ++ [frm B p j] := by unfold fp1; rw [if_pos ⟨c0, c1, ep⟩]
          rw [e1]
          obtain ⟨σ3, d1, d2, d3, d4⟩ := ih (j + 1) g σ2 _ (by omega) (by omega) (RB_FR hb b4 (by decide)) (by rw [b4.2.2.1 56 (by decide)]; exact h56) b2 b3
          exact ⟨σ3, d1, d2, d3, FR_trans (FR_mono b4 (by decide) (by decide) (by decide) (by decide)) d4⟩
      · rw [if_neg (show ¬ nI (lst nd (st B (frm B p j)) (nd.length + 1)) = 0 from fun q => c1 ((nI_eq (b := 0) (by omega) (by decide)).mp q))]
        exact skip (by unfold fp1; rw [if_neg (fun q => c1 q.2.1)])
    · rw [if_neg (fun q => c0 ((RB_0 hb _).mp q))]
      exact skip (by unfold fp1; rw [if_neg (fun q => c0 q.1)])
end MFP
