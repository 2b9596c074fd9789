section
/-! own, ownAddress, the names' addresses in the reference -/
/-- the address of what symbol k of object t defines by itself -/
def ownV (B : Nat → Nat) (pf : List Nat) (tO : Nat → Nat) (tb : Nat → Nat → Nat) (dr : Nat → Bool) (sy : Nat → Nat → Bool) (pp : Nat) (ad : Nat → Nat) (t k : Nat) : Int64 :=
  if wNo dr t (tb t) k = 0 then lN 0 else if wNo dr t (tb t) k = 65521 ∨ oK (tb t) (wNo dr t (tb t) k) = false then lN (yV (tb t) k) else if sy t (wNo dr t (tb t) k) = false then lN 0 else if oStr (tb t) (wNo dr t (tb t) k) = true then lN (pp + baN B pf (tO t + oP (tb t) (wNo dr t (tb t) k)) (oZ (tb t) (wNo dr t (tb t) k)) (yV (tb t) k)) else lN (ad (24 * t + wNo dr t (tb t) k) + yV (tb t) k)
/-- the place of the linker's own name -/
def ownK (te bg2 fb2 bss mb2 k : Nat) : Nat := if k = 1 then te else if k = 2 then bg2 + fb2 else if k = 3 then bss else bg2 + mb2
/-- what is laid is what stays -/
def llS (T : Nat) (tb : Nat → Nat → Nat) (sy : Nat → Nat → Bool) (ll : List Nat) : Prop := ∀ t i, t < T → 1 ≤ i → i < oS (tb t) → sy t i = true → 24 * t + i ∈ ll
section MOV
variable {F m T t k : Nat} {h : px_H} {σ : px_S} {B : Nat → Nat} {tb : Nat → Nat → Nat} {tO tn tq : Nat → Nat} {dr : Nat → Bool} {xs : px_NL} {ll : List Nat} {on : Bool} {R : Nat → Bool} {ad : Nat → Nat} {pp : Nat}
theorem q_own (hm : m ≤ h.length) (hF : 65540 < F) (hW : RWp σ T tO tn tq tb ll B) (hl : llP T tb ll) (hn : ndB B (nd0 B tO tb ll)) (hr : RPo σ B (nd0 B tO tb ll) (pf0 B tO tb ll)) (hI : PIn B (nd0 B tO tb ll) (pf0 B tO tb ll)) (hd : RDr σ dr) (hs : RSt σ on R) (hS : llS T tb (sta tb dr on R) ll) (h90 : gJ σ 90 = lN pp) (hA : ∀ x, x ∈ ll → oStr (tb (x / 24)) (x % 24) = false → gB σ 58 x = lN (ad x)) (ht : t < T) (h1 : 1 ≤ k) (hk : k < oM (tb t)) (hc : yW (tb t) k ≠ 65522) : f_M_own F m (nI t) (nI k) (mh m h σ) = some (ownV B (pf0 B tO tb ll) tO tb dr (sta tb dr on R) pp ad t k, mh m h σ) := by
  have hb := hW.1 t ht
  have ht64 := hb.1.1
  have hSS := (OB_w hb).1.2.1.2
  have hV : yV (tb t) k < 2 ^ 64 := le_lt (OB_lt hb) _ 8
  have hwl := wNo_lt (k := k) (dr := dr) hb
  have hy := OB_y hb h1 hk
  have hwS : wNo dr t (tb t) k ≠ 0 → wNo dr t (tb t) k ≠ 65521 → wNo dr t (tb t) k < oS (tb t) := by
    intro c1 c2
    unfold yOK at hy
    have hy2 := (of_decide_eq_true hy).2.1
    have : wNo dr t (tb t) k = 0 ∨ wNo dr t (tb t) k = yW (tb t) k := by unfold wNo; split; exact Or.inl rfl; exact Or.inr rfl
    rcases this with e | e
    · exact absurd e c1
    · rw [e] at c1 c2 ⊢
      rcases hy2 with q | q | q | q
      · exact absurd q c1
      · exact absurd q c2
      · exact absurd q hc
      · exact q
  unfold f_M_own f_M_own_39 ownV
  rw [e_o hm, bs, O_obj hm hb, xb_mk, e_o hm, bs, O_wNo hm (by omega) hb hd hk, xb_mk]
  generalize wNo dr t (tb t) k = w at *
  by_cases c1 : w = 0
  · rw [if_pos (by rw [c1]; rfl), if_pos c1]
  · rw [if_neg (show ¬ nI w = 0 from fun q => c1 ((nI_eq (b := 0) (by omega) (by decide)).mp q)), if_neg c1]
    by_cases c2 : w = 65521
    · rw [if_pos (by rw [c2]; rfl), if_pos (Or.inl c2), e_o hm, bs, O_value hm (by omega) hb hk, xb_mk]
    · have hwo := hwS c1 c2
      rw [if_neg (show ¬ nI w = (65521 : Int32) from fun q => c2 ((nI_eq (b := 65521) (by omega) (by decide)).mp q)), e_o hm, bs, O_kept hm (by omega) hb hwo, xb_mk]
      cases ek : oK (tb t) w with
      | false => rw [if_pos (show bI false = 0 from rfl), if_pos (Or.inr rfl), e_o hm, bs, O_value hm (by omega) hb hk, xb_mk]
      | true =>
        rw [if_neg (show ¬ bI true = 0 by decide), if_neg (fun q => q.elim c2 (fun q => nomatch q)), e_o hm, bs, q_stays hm (by omega) hb hd hs hwo, xb_mk]
        cases es : sta tb dr on R t w with
        | false => rw [if_pos (show bI false = 0 from rfl), if_pos rfl]
        | true =>
          have hin := hS t w ht (by omega) hwo es
          have e1 : (24 * t + w) / 24 = t := by omega
          have e2 : (24 * t + w) % 24 = w := by omega
          rw [if_neg (show ¬ bI true = 0 by decide), if_neg (by decide), e_o hm, bs, q_isStrings hm (by omega) hb hwo, xb_mk]
          cases eo : oStr (tb t) w with
          | false =>
            have hx := hA _ hin (by rw [e1, e2]; exact eo)
            rw [if_pos (show bI false = 0 from rfl), if_neg (by decide), Mr58 hm, bs, pk_mul, nI_add, Ma58 hm (by omega), bs, hx, e_o hm, bs, O_value hm (by omega) hb hk, xb_mk, lN_add]
          | true =>
            rw [if_neg (show ¬ bI true = 0 by decide), if_pos rfl, e_o hm, bs, O_value hm (by omega) hb hk, xb_mk, e_o hm, bs, q_byteAddress hm hF hW hl hn hr hI hin (by omega) eo hV h90, xb_mk]
theorem q_ownAddress {te bg2 fb2 bss mb2 o : Nat} (hm : m ≤ h.length) (ho : o < 2 ^ 31) (h80 : gJ σ 80 = lN te) (h61 : gB σ 61 2 = lN bg2) (h62 : gB σ 62 2 = lN fb2) (h81 : gJ σ 81 = lN bss) (h63 : gB σ 63 2 = lN mb2) : f_M_ownAddress F m (nI o) (mh m h σ) = some (lN (ownK te bg2 fb2 bss mb2 o), mh m h σ) := by
  unfold f_M_ownAddress f_M_ownAddress_58 ownK
  by_cases c1 : o = 1
  · rw [if_pos (by rw [c1]), if_pos c1, Mg80 hm, bs, h80]
  · rw [if_neg (fun q => c1 ((nI_eq ho (by decide)).mp q)), if_neg c1]
    by_cases c2 : o = 2
    · rw [if_pos (by rw [c2]), if_pos c2, Mr61 hm, bs, Ma61 hm (by decide), bs, h61, Mr62 hm, bs, Ma62 hm (by decide), bs, h62, lN_add]
    · rw [if_neg (fun q => c2 ((nI_eq ho (by decide)).mp q)), if_neg c2]
      by_cases c3 : o = 3
      · rw [if_pos (by rw [c3]), if_pos c3, Mg81 hm, bs, h81]
      · rw [if_neg (fun q => c3 ((nI_eq ho (by decide)).mp q)), if_neg c3, Mr61 hm, bs, Ma61 hm (by decide), bs, h61, Mr63 hm, bs, Ma63 hm (by decide), bs, h63, lN_add]
/-- the address of a name -/
def naV (OV : Nat → Nat → Int64) (OK : Nat → Nat) (na : Nat → Nat) (n : Nat) (r : px_NR) : Int64 := if r.1 = 2 then lN (na n) else if r.1 = 4 then lN (OK r.2.2.1) else if r.1 = 0 then lN 0 else match r.2.2.2.1 with
  | none => r.2.2.2.2.1
  | some q => OV q.1 q.2
theorem q_ly_173 {te bg2 fb2 bss mb2 : Nat} {na : Nat → Nat} (hm : m ≤ h.length) (hF : 65540 < F) (hWP : WP T tb dr xs) (hown : ∀ (i : Nat) (x : List Nat × px_NR), xs[i]? = some x → x.2.2.2.1 < 2 ^ 31) (hl : llP T tb ll) (hn : ndB B (nd0 B tO tb ll)) (hI : PIn B (nd0 B tO tb ll) (pf0 B tO tb ll)) (hS : llS T tb (sta tb dr on R) ll) : ∀ (c n f : Nat) (σ : px_S), n + c = xs.length → c < f → RL σ xs → RWp σ T tO tn tq tb ll B → RPo σ B (nd0 B tO tb ll) (pf0 B tO tb ll) → RDr σ dr → RSt σ on R → gJ σ 90 = lN pp → (∀ x, x ∈ ll → oStr (tb (x / 24)) (x % 24) = false → gB σ 58 x = lN (ad x)) → gJ σ 80 = lN te → gB σ 61 2 = lN bg2 → gB σ 62 2 = lN fb2 → gJ σ 81 = lN bss → gB σ 63 2 = lN mb2 → (∀ j, n ≤ j → j < xs.length → gB σ 29 j = lN (na j)) → (∀ (j : Nat) (x : List Nat × px_NR), j < n → xs[j]? = some x → gB σ 29 j = naV (ownV B (pf0 B tO tb ll) tO tb dr (sta tb dr on R) pp ad) (ownK te bg2 fb2 bss mb2) na j x.2) → ∃ σ', f_M_layout_173 F f m (nI n) (mh m h σ) = some ((), mh m h σ') ∧ (∀ (j : Nat) (x : List Nat × px_NR), xs[j]? = some x → gB σ' 29 j = naV (ownV B (pf0 B tO tb ll) tO tb dr (sta tb dr on R) pp ad) (ownK te bg2 fb2 bss mb2) na j x.2) ∧ FR [] [] [] [29] σ σ' := by
  intro c
  induction c with
  | zero =>
    intro n f σ hnc hf hr hW hpo hd hs h90 hA h80 h61 h62 h81 h63 hA1 hA2
    obtain ⟨f, rfl⟩ : ∃ x, f = x + 1 := ⟨f - 1, by omega⟩
    have hxl : xs.length ≤ 4096 := by have := hr.1.2.1; rw [List.length_map] at this; exact this
    have h20 := hr.1.1
    rw [List.length_map] at h20
    unfold f_M_layout_173 f_M_layout_281
    rw [Mg20 hm, bs, h20, if_pos (nI_le (by omega) (by omega))]
    exact ⟨σ, rfl, fun j x hx => hA2 j x (by have := (List.getElem?_eq_some_iff.mp hx).1; omega) hx, FR_refl σ⟩
  | succ c ih =>
    intro n f σ hnc hf hr hW hpo hd hs h90 hA h80 h61 h62 h81 h63 hA1 hA2
    obtain ⟨f, rfl⟩ : ∃ x, f = x + 1 := ⟨f - 1, by omega⟩
    have hxl : xs.length ≤ 4096 := by have := hr.1.2.1; rw [List.length_map] at this; exact this
    have h20 := hr.1.1
    rw [List.length_map] at h20
    have hnl : n < xs.length := by omega
    obtain ⟨x, hx⟩ : ∃ x, xs[n]? = some x := ⟨xs[n], List.getElem?_eq_getElem hnl⟩
    have rr := hr.2 n x hx
    have h4 := (hWP.2.1 n x hx).1
    have hby := hWP.2.2.1 n x hx
    have fin : ∀ v, v = naV (ownV B (pf0 B tO tb ll) tO tb dr (sta tb dr on R) pp ad) (ownK te bg2 fb2 bss mb2) na n x.2 → ∃ σ', f_M_layout_274 F (f_M_layout_173 F f) m (nI n) (m + 21) (nI n) v (mh m h σ) = some ((), mh m h σ') ∧ (∀ (j : Nat) (x : List Nat × px_NR), xs[j]? = some x → gB σ' 29 j = naV (ownV B (pf0 B tO tb ll) tO tb dr (sta tb dr on R) pp ad) (ownK te bg2 fb2 bss mb2) na j x.2) ∧ FR [] [] [] [29] σ σ' := by
      intro v hv
      unfold f_M_layout_274
      rw [Ms29 hm (by omega), bs, nI_add]
      have f1 := FR_B σ 29 (vp_updL (gB σ 29) n v)
      have g29 : gB (sB σ 29 (vp_updL (gB σ 29) n v)) 29 = vp_updL (gB σ 29) n v := by rw [gB_sB, if_pos rfl]
      generalize sB σ 29 (vp_updL (gB σ 29) n v) = σ1 at *
      obtain ⟨σ2, b1, b2, b3⟩ := ih (n + 1) f σ1 (by omega) (by omega) (RL_FR hr f1 (by decide) (by decide) (by decide)) (RWp_FR hW f1 (by decide) (by decide)) (RPo_FR hpo f1 (by decide) (by decide)) (fun i hi => by rw [f1.2.2.1 65 (by decide)]; exact hd i hi) (RSt_FR hs f1 (by decide) (by decide)) ((f1.2.1 90 (by decide)).trans h90) (fun y hy he => by rw [f1.2.2.2 58 (by decide)]; exact hA y hy he) ((f1.2.1 80 (by decide)).trans h80) (by rw [f1.2.2.2 61 (by decide)]; exact h61) (by rw [f1.2.2.2 62 (by decide)]; exact h62) ((f1.2.1 81 (by decide)).trans h81) (by rw [f1.2.2.2 63 (by decide)]; exact h63) (fun j h1 h2 => by rw [g29, vp_ne (by omega)]; exact hA1 j (by omega) h2) (fun j y hj hy => by
        rw [g29]
        by_cases e : j = n
        · rw [e] at hy ⊢
          rw [vp_eq, hv]
          rw [hx] at hy
          rw [Option.some.inj hy]
        · rw [vp_ne e]; exact hA2 j y (by omega) hy)
      exact ⟨σ2, b1, b2, FR_trans f1 b3⟩
    have gv := q_isGiven (F := F) (σ := σ) hm hr hWP.2.1 hx (fun q hq => by
      have := hby
      unfold byP at this
      rw [hq] at this
      have := this.1
      have := hWP.1
      omega)
    have r73 : gA σ 73 n = nI x.2.2.2.1 := rr.2.2.1
    unfold f_M_layout_173
    rw [Mg20 hm, bs, h20, if_neg (nI_ge (by omega) (by omega)), Mr29 hm, bs, Mr23 hm, bs, Ma23 hm (by omega), bs, rr.1]
    by_cases c2 : x.2.1 = 2
    · rw [if_pos (by rw [c2]), bs, Ma29 hm (by omega), bs, hA1 n (Nat.le_refl _) hnl]
      exact fin _ (by unfold naV; rw [if_pos c2])
    · rw [if_neg (fun q => c2 ((nI_eq (by omega) (by decide)).mp q)), bs, Ma23 hm (by omega), bs, rr.1]
      by_cases c4 : x.2.1 = 4
      · rw [if_pos (by rw [c4]), Mr73 hm, bs, Ma73 hm (by omega), bs, r73, e_o hm, bs, q_ownAddress hm (hown n x hx) h80 h61 h62 h81 h63, xb_mk]
        exact fin _ (by unfold naV; rw [if_neg c2, if_pos c4])
      · rw [if_neg (fun q => c4 ((nI_eq (by omega) (by decide)).mp q)), bs, Ma23 hm (by omega), bs, rr.1]
        by_cases c0 : x.2.1 = 0
        · rw [if_pos (by rw [c0]; rfl)]
          exact fin _ (by unfold naV; rw [if_neg c2, if_neg c4, if_pos c0])
        · rw [if_neg (show ¬ nI x.2.1 = 0 from fun q => c0 ((nI_eq (b := 0) (by omega) (by decide)).mp q)), e_o hm, bs, gv, xb_mk]
          cases eq : x.2.2.2.2.1 with
          | none =>
            have hb0 := hby
            unfold byP at hb0
            rw [eq] at hb0
            have hb0 : x.2.1 = 0 ∨ x.2.1 = 3 ∨ x.2.1 = 4 := hb0
            have c3 : x.2.1 = 3 := by omega
            have r30 : gB σ 30 n = x.2.2.2.2.2.1 := rr.2.2.2.2.1
            rw [decide_eq_true c3, if_neg (by decide), Mr30 hm, bs, Ma30 hm (by omega), bs, r30]
            exact fin _ (by unfold naV; rw [if_neg c2, if_neg c4, if_neg c0, eq])
          | some q =>
            have hb0 := hby
            unfold byP at hb0
            rw [eq] at hb0
            obtain ⟨b1, b2, b3, b4, b5, b6⟩ := hb0
            have hy := rr.2.2.2.1
            rw [eq] at hy
            have hy : gA σ 24 n = nI q.1 ∧ gA σ 25 n = nI q.2 := hy
            have hc : yW (tb q.1) q.2 ≠ 65522 := fun e => by
              have hw : wNo dr q.1 (tb q.1) q.2 = 65522 := by
                unfold wNo
                rw [e, if_neg (fun z => absurd z.2.1 (by decide))]
              unfold sOf at b4
              rw [hw, if_neg (by decide), if_pos rfl] at b4
              exact c2 b4.symm
            rw [show (some q).isNone = false from rfl, Bool.and_false, if_pos (show bI false = 0 from rfl), Mr24 hm, bs, Ma24 hm (by omega), bs, hy.1, Mr25 hm, bs, Ma25 hm (by omega), bs, hy.2, e_o hm, bs, q_own hm hF hW hl hn hpo hI hd hs hS h90 hA b1 b2.1 b2.2 hc, xb_mk]
            exact fin _ (by unfold naV; rw [if_neg c2, if_neg c4, if_neg c0, eq])
end MOV
end
section
/-! layout of the reference -/
def LYe (B : Nat → Nat) (tO : Nat → Nat) (tb : Nat → Nat → Nat) (ll : List Nat) (xs : px_NL) (od : List Nat) (ns : Nat) (on : Bool) (rn : Nat → Bool) (th : Nat → Bool) (fe0 bg0 : Nat) (G0 : px_PG) (fe1 mem1 bg1 : Nat) (G1 : px_PG) (fe2 mem2 bg2 : Nat) (G4 G5 G2 : px_PG) (sp : Nat) (G3 CM : px_PG) (fe3 : Nat) : Prop :=
  fe0 = 64 + 56 * sgN th 3 + (if ll.any (thr1 tb) = true then 56 else 0) ∧ bg0 = bgN 4194304 (upN fe0 16) (th 0) ∧ G0 = ll.foldl (pg1 tb 0 (th 0)) (bg0, (fun _ => 0), none) ∧ fe1 = (if th 0 = true then upN fe0 16 + (G0.1 - bg0) else fe0) ∧ mem1 = (if th 0 = true then bg0 + (G0.1 - bg0) else 4194304) ∧ bg1 = bgN mem1 (upN fe1 16) (th 1) ∧ G1 = ll.foldl (pg1 tb 1 (th 1)) (bg1, G0.2.1, none) ∧ fe2 = (if th 1 = true then upN fe1 16 + (G1.1 + psz B (pf0 B tO tb ll) - bg1) else fe1) ∧ mem2 = (if th 1 = true then bg1 + (G1.1 + psz B (pf0 B tO tb ll) - bg1) else mem1) ∧ bg2 = bgN mem2 (upN fe2 16) (th 2) ∧ G4 = ll.foldl (pg1 tb 4 (th 2)) (bg2, psF B (pf0 B tO tb ll) tO tb G1.1 G1.2.1, none) ∧ G5 = ll.foldl (pg1 tb 5 (th 2)) (G4.1, G4.2.1, none) ∧ G2 = ll.foldl (pg1 tb 2 (th 2)) (G4.1, G5.2.1, none) ∧ sp = (if 0 < ns then upN G2.1 8 else G2.1) ∧ G3 = ll.foldl (pg1 tb 3 (th 2)) (sp + 8 * ns, G2.2.1, none) ∧ CM = od.foldl (pc1 xs on rn (th 2)) (G3.1, (fun _ => 0), G3.2.2) ∧ fe3 = (if th 2 = true then upN fe2 16 + (sp + 8 * ns - bg2) else fe2)
/-- a segment, or the file, is too large -/
def lyA (th : Nat → Bool) (mb0 mb1 mb2 fe3 : Nat) : Bool := ((th 0 && decide (65536 < mb0)) || (th 1 && decide (65536 < mb1))) || ((th 2 && decide (65536 < mb2)) || decide (65536 < fe3))
section MLA
variable {F m : Nat} {h : px_H}
theorem q_ly_2 {N : Nat} (hm : m ≤ h.length) (hN : N ≤ 4096) : ∀ (c k g : Nat) (σ : px_S), k + c = N → c < g → gI σ 20 = nI N → (∀ q, q < k → gB σ 29 q = lN 0) → ∃ σ', f_M_layout_2 F g m (nI k) (mh m h σ) = f_M_layout_23 F m (mh m h σ') ∧ (∀ q, q < N → gB σ' 29 q = lN 0) ∧ FR [] [] [] [29] σ σ' := by
  intro c
  induction c with
  | zero =>
    intro k g σ hk hg h20 hq
    obtain ⟨g, rfl⟩ : ∃ x, g = x + 1 := ⟨g - 1, by omega⟩
    unfold f_M_layout_2
    rw [Mg20 hm, bs, h20, if_pos (nI_le (by omega) (by omega))]
    exact ⟨σ, rfl, fun q h1 => hq q (by omega), FR_refl σ⟩
  | succ c ih =>
    intro k g σ hk hg h20 hq
    obtain ⟨g, rfl⟩ : ∃ x, g = x + 1 := ⟨g - 1, by omega⟩
    unfold f_M_layout_2
    rw [Mg20 hm, bs, h20, if_neg (nI_ge (by omega) (by omega)), Mr29 hm, bs, Ms29 hm (by omega), bs, nI_add]
    obtain ⟨σ2, j1, j2, j3⟩ := ih (k + 1) g (sB σ 29 (vp_updL (gB σ 29) k (lN 0))) (by omega) (by omega) h20 (fun q hq2 => by
      show vp_updL (gB σ 29) k (lN 0) q = _
      by_cases c1 : q = k
      · rw [c1, vp_eq]
      · rw [vp_ne c1]; exact hq q (by omega))
    exact ⟨σ2, j1, j2, FR_trans (FR_B σ 29 _) j3⟩
theorem q_ly_step {K : Nat → Int64 → Int32 → px_H → Option (Unit × px_H)} {σ σ1 : px_S} {s g mem fp bg fb mb fe : Nat} {th : Bool} (hm : m ≤ h.length) (hs : s < 3) (h1 : f_M_placeSegment F m (nI s) (lN mem) (mh m h σ) = some ((), mh m h σ1)) (hR : RSeg σ1 s fp bg fb mb) (h59 : gA σ1 59 s = bI th) (h64 : gJ σ1 64 = lN fe) (hmb : mb < 2 ^ 62) (hK : f_M_layout_73 F g = K) : ∃ σ2, f_M_layout_73 F (g + 1) m (lN mem) (nI s) (mh m h σ) = K m (lN (if th = true then bg + mb else mem)) (nI (s + 1)) (mh m h σ2) ∧ gJ σ2 64 = lN (if th = true then fp + fb else fe) ∧ gI σ2 13 = (if (th && decide (65536 < mb)) = true then nI 3 else gI σ1 13) ∧ FR [13] [64] [] [] σ1 σ2 := by
  obtain ⟨r1, r2, r3, r4⟩ := hR
  unfold f_M_layout_73 f_M_layout_145
  rw [hK]
  rw [if_neg (nI_ge (by omega) (by omega)), e_o hm, bs, h1, xb_mk, Mr59 hm, bs, Ma59 hm hs, bs, h59, nI_add]
  cases th with
  | false =>
    rw [if_pos (show bI false = 0 from rfl), if_neg (by decide), if_neg (by decide), Bool.false_and, if_neg (by decide)]
    exact ⟨σ1, rfl, h64, rfl, FR_refl σ1⟩
  | true =>
    have f1 := FR_J σ1 64 (lN (fp + fb))
    have g63 : gB (sJ σ1 64 (lN (fp + fb))) 63 s = lN mb := r4
    have g13 : gI (sJ σ1 64 (lN (fp + fb))) 13 = gI σ1 13 := rfl
    have g64 : gJ (sJ σ1 64 (lN (fp + fb))) 64 = lN (fp + fb) := by rw [gJ_sJ, if_pos rfl]
    rw [if_neg (show ¬ bI true = 0 by decide), if_pos rfl, if_pos rfl, Bool.true_and, Mr61 hm, bs, Ma61 hm hs, bs, r2, Mr63 hm, bs, Ma63 hm hs, bs, r4, Mr60 hm, bs, Ma60 hm hs, bs, r1, Mr62 hm, bs, Ma62 hm hs, bs, r3, lN_add, lN_add, Mp64 hm, bs, Mr63 hm, bs, Ma63 hm hs, bs, g63, show (65536 : Int64) = lN 65536 from rfl]
    generalize sJ σ1 64 (lN (fp + fb)) = σ2 at *
    by_cases c : 65536 < mb
    · rw [if_neg (fun q => by have := (pk_lLE (by omega) (by decide)).mp q; omega), Mp13 hm, bs, decide_eq_true c, if_pos rfl]
      exact ⟨sI σ2 13 (nI 3), rfl, g64, by rw [gI_sI, if_pos rfl], FR_trans (FR_mono f1 (by decide) (by decide) (by decide) (by decide)) (FR_mono (FR_I σ2 13 _) (by decide) (by decide) (by decide) (by decide))⟩
    · rw [if_pos ((pk_lLE (by omega) (by decide)).mpr (by omega)), decide_eq_false c, if_neg (by decide)]
      exact ⟨σ2, rfl, g64, g13, FR_mono f1 (by decide) (by decide) (by decide) (by decide)⟩
end MLA
theorem cnd_all {tb : Nat → Nat → Nat} {x : Nat} : (((False ∨ cnd tb 0 x = true) ∨ cnd tb 1 x = true) ∨ sS tb x = true) ∨ cnd tb 4 x = true ∨ cnd tb 5 x = true ∨ cnd tb 2 x = true ∨ cnd tb 3 x = true := by
  have hG : oG (tb (x / 24)) (x % 24) ≤ 5 := by unfold oG; repeat (first | omega | split)
  have key : ∀ g, g ≠ 1 → oG (tb (x / 24)) (x % 24) = g → cnd tb g x = true := fun g h1 h2 => by unfold cnd; rw [decide_eq_true h2, decide_eq_false h1]; rfl
  by_cases c0 : oG (tb (x / 24)) (x % 24) = 0
  · exact Or.inl (Or.inl (Or.inl (Or.inr (key 0 (by decide) c0))))
  by_cases c1 : oG (tb (x / 24)) (x % 24) = 1
  · cases es : sS tb x with
    | true => exact Or.inl (Or.inr rfl)
    | false => exact Or.inl (Or.inl (Or.inr (by unfold cnd; rw [decide_eq_true c1, es, Bool.and_false]; rfl)))
  by_cases c2 : oG (tb (x / 24)) (x % 24) = 2
  · exact Or.inr (Or.inr (Or.inr (Or.inl (key 2 (by decide) c2))))
  by_cases c3 : oG (tb (x / 24)) (x % 24) = 3
  · exact Or.inr (Or.inr (Or.inr (Or.inr (key 3 (by decide) c3))))
  by_cases c4 : oG (tb (x / 24)) (x % 24) = 4
  · exact Or.inr (Or.inl (key 4 (by decide) c4))
  · exact Or.inr (Or.inr (Or.inl (key 5 (by decide) (by omega))))
theorem sS_g {tb : Nat → Nat → Nat} {x : Nat} (h : sS tb x = true) : oG (tb (x / 24)) (x % 24) = 1 := by
  unfold sS oStr at h
  rw [Bool.and_eq_true] at h
  have := h.1
  unfold oStr0 at this
  exact (of_decide_eq_true this).2.1
theorem cnd_s {tb : Nat → Nat → Nat} {g x : Nat} (h : sS tb x = true) (hg : g ≠ 1) : cnd tb g x = false := by
  unfold cnd
  rw [sS_g h, decide_eq_false (fun q => hg q.symm), Bool.false_and]
theorem cnd_0s {tb : Nat → Nat → Nat} {g x : Nat} (h : cnd tb g x = true) (hg : g ≠ 1) : sS tb x = false := by
  cases e : sS tb x with
  | false => rfl
  | true => rw [cnd_s e hg] at h; cases h
theorem ft_le {tb : Nat → Nat → Nat} {ad : Nat → Nat} {K : Nat} : ∀ (l : List Nat) (s : px_FT), (∀ x, x ∈ l → ad x + zS tb x ≤ K) → s.2.1 ≤ K → (l.foldl (ft1 tb ad) s).2.1 ≤ K := by
  intro l
  induction l with
  | nil => intro s _ h; exact h
  | cons x l ih =>
    intro s h hs
    rw [List.foldl_cons]
    refine ih _ (fun y hy => h y (List.mem_cons_of_mem _ hy)) ?_
    unfold ft1
    split
    · exact h x List.mem_cons_self
    · exact hs
theorem ar_k {a b K L q : Nat} (h : a + (L * q + q) ≤ K) (hb : b ≤ a + q) : b + L * q ≤ K := by omega
theorem ar_k2 {a b K Q : Nat} (h : a + (Q + 20480) ≤ K) (hb : b ≤ a + 4096) : b ≤ K := by omega
theorem pgA_le {tb : Nat → Nat → Nat} {th : Bool} {a x : Nat} (h : alS tb x ≤ 4096) : pgA tb th a x ≤ a + 4096 := by
  unfold pgA
  split
  · rename_i q
    have := upN_le (v := a) (a := alS tb x) (by omega)
    omega
  · omega
theorem tup_ad {A Z K x y : Nat} {f : Nat → Nat} {o : Option Nat} {P : px_PG} (hP : P = (A + Z, fun z => if z = y then A else f z, o)) (h : f x ≤ K) (ha : A ≤ K) : P.2.1 x ≤ K := by
  rw [hP]
  show (if x = y then A else f x) ≤ K
  split
  · exact ha
  · exact h
theorem pg1_ad {tb : Nat → Nat → Nat} {g : Nat} {th : Bool} {K : Nat} {s : px_PG} {y x : Nat} (h : s.2.1 x ≤ K) (ha : pgA tb th s.1 y ≤ K) : (pg1 tb g th s y).2.1 x ≤ K := by
  by_cases c : cnd tb g y = true
  · have e1 : pg1 tb g th s y = (pgA tb th s.1 y + zS tb y, fun z => if z = y then pgA tb th s.1 y else s.2.1 z, if g = 3 then some (s.2.2.getD (pgA tb th s.1 y)) else s.2.2) := by unfold pg1; rw [if_pos c]
    exact tup_ad e1 h ha
  · have e1 : pg1 tb g th s y = s := by unfold pg1; rw [if_neg c]
    rw [e1]; exact h
theorem pg_ad {tb : Nat → Nat → Nat} {g : Nat} {th : Bool} {K : Nat} : ∀ (l : List Nat) (s : px_PG), (∀ x, x ∈ l → zS tb x ≤ 16384 ∧ alS tb x ≤ 4096) → (∀ x, s.2.1 x ≤ K) → s.1 + l.length * 20480 ≤ K → ∀ x, (l.foldl (pg1 tb g th) s).2.1 x ≤ K := by
  intro l
  induction l with
  | nil => intro s _ h _ x; exact h x
  | cons y l ih =>
    intro s hz h hK
    rw [List.foldl_cons]
    rw [List.length_cons, Nat.succ_mul] at hK
    have hm := pg1_m (g := g) (th := th) (s := s) (hz y List.mem_cons_self)
    exact ih _ (fun z hz2 => hz z (List.mem_cons_of_mem _ hz2)) (fun x => pg1_ad (h x) (ar_k2 hK (pgA_le (hz y List.mem_cons_self).2))) (ar_k hK hm.2)
end
section
/-! layout of the reference, as a whole -/
theorem baN_le {B : Nat → Nat} {pf : List Nat} {p Z V : Nat} : baN B pf p Z V ≤ psz B pf := by
  unfold baN
  split
  · cases e : peO B 0 pf (st B (frm B p (nxt B p V (Z - V)))) with
    | none => exact Nat.le_trans (Nat.sub_le _ _) (Nat.zero_le _)
    | some y =>
      have := peO_le e
      show y - _ ≤ _
      omega
  · exact Nat.le_refl _
theorem psF_le {B : Nat → Nat} {pf : List Nat} {tO : Nat → Nat} {tb : Nat → Nat → Nat} {pp K : Nat} {ad : Nat → Nat} (h : ∀ x, ad x ≤ K) (hK : pp + psz B pf ≤ K) : ∀ x, psF B pf tO tb pp ad x ≤ K := fun x => by
  unfold psF
  have h1 := baN_le (B := B) (pf := pf) (p := pS tO tb x) (Z := zS tb x) (V := 0)
  generalize baN B pf (pS tO tb x) (zS tb x) 0 = y at *
  split
  · omega
  · exact h x
theorem RSeg_oth {σ σ' : px_S} {s s' fp bg fb mb : Nat} (h : RSeg σ s fp bg fb mb) (ho : oth s' σ σ') (hne : s ≠ s') : RSeg σ' s fp bg fb mb := ⟨(ho 60 s (by decide) hne).trans h.1, (ho 61 s (by decide) hne).trans h.2.1, (ho 62 s (by decide) hne).trans h.2.2.1, (ho 63 s (by decide) hne).trans h.2.2.2⟩
theorem RSeg_FR {σ σ' : px_S} {I J A B : List Nat} {s fp bg fb mb : Nat} (h : RSeg σ s fp bg fb mb) (f : FR I J A B σ σ') (hB : ∀ k, k ∈ sgB4 → k ∉ B) : RSeg σ' s fp bg fb mb := by
  unfold RSeg
  rw [f.2.2.2 60 (hB 60 (by decide)), f.2.2.2 61 (hB 61 (by decide)), f.2.2.2 62 (hB 62 (by decide)), f.2.2.2 63 (hB 63 (by decide))]
  exact h
theorem bgN_lt {mem fp : Nat} {th : Bool} : mem ≤ bgN mem fp th ∧ bgN mem fp th < mem + 8192 := by
  have u2 := upN_le (v := mem) (a := 4096) (by decide)
  have := Nat.mod_lt fp (show 4096 > 0 by decide)
  unfold bgN
  split <;> omega
abbrev lyJ : List Nat := [64, 79, 80, 81, 83, 84, 85, 86, 87, 90]
abbrev lyB : List Nat := [29, 57, 58, 60, 61, 62, 63]
section MLB
variable {F m T : Nat} {h : px_H} {σ : px_S} {B : Nat → Nat} {tb : Nat → Nat → Nat} {tO tn tq : Nat → Nat} {dr : Nat → Bool} {xs : px_NL} {ll od : List Nat} {on : Bool} {R rn : Nat → Bool} {ns : Nat} {th : Nat → Bool}
theorem q_layout (hm : m ≤ h.length) (hF : 65540 < F) (hY : LYo T tb ll) (hWP : WP T tb dr xs) (hown : ∀ (i : Nat) (x : List Nat × px_NR), xs[i]? = some x → x.2.2.2.1 < 2 ^ 31) (hW : RWp σ T tO tn tq tb ll B) (hn : ndB B (nd0 B tO tb ll)) (hI : PIn B (nd0 B tO tb ll) (pf0 B tO tb ll)) (hpo : RPo σ B (nd0 B tO tb ll) (pf0 B tO tb ll)) (hd : RDr σ dr) (hs : RSt σ on R) (hS : llS T tb (sta tb dr on R) ll) (hR : RWg σ tq tb ll xs od on rn ns) (hod : ∀ d, d ∈ od → d < xs.length) (hcm : cmOK xs) (hns : ns ≤ 2800) (h13 : gI σ 13 = nI 0) (hth : th = thS tb ll xs od on rn ns) : ∃ (σ' : px_S) (fe0 bg0 : Nat) (G0 : px_PG) (fe1 mem1 bg1 : Nat) (G1 : px_PG) (fe2 mem2 bg2 : Nat) (G4 G5 G2 : px_PG) (sp : Nat) (G3 CM : px_PG) (fe3 : Nat), LYe B tO tb ll xs od ns on rn th fe0 bg0 G0 fe1 mem1 bg1 G1 fe2 mem2 bg2 G4 G5 G2 sp G3 CM fe3 ∧ f_M_layout F m (mh m h σ) = some ((), mh m h σ') ∧ gI σ' 13 = nI (if lyA th (G0.1 - bg0) (G1.1 + psz B (pf0 B tO tb ll) - bg1) (CM.1 - bg2) fe3 = true then 3 else 0) ∧ (gI σ' 15 = nI (sgN th 3) ∧ (∀ j, j < 3 → gA σ' 59 j = bI (th j)) ∧ gI σ' 82 = bI (ll.any (thr1 tb))) ∧ (RSeg σ' 0 (upN fe0 16) bg0 (G0.1 - bg0) (G0.1 - bg0) ∧ RSeg σ' 1 (upN fe1 16) bg1 (G1.1 + psz B (pf0 B tO tb ll) - bg1) (G1.1 + psz B (pf0 B tO tb ll) - bg1) ∧ RSeg σ' 2 (upN fe2 16) bg2 (sp + 8 * ns - bg2) (CM.1 - bg2)) ∧ (gJ σ' 64 = lN fe3 ∧ gJ σ' 79 = lN sp ∧ gJ σ' 90 = lN G1.1 ∧ gJ σ' 87 = lN (tpN bg2 (ll.foldl (ft1 tb G3.2.1) (false, 0, 1, 0)))) ∧ RAd σ' ll (fun _ => True) G3.2.1 ∧ (∀ (j : Nat) (x : List Nat × px_NR), xs[j]? = some x → gB σ' 29 j = naV (ownV B (pf0 B tO tb ll) tO tb dr (sta tb dr on R) G1.1 G3.2.1) (ownK G0.1 bg2 (sp + 8 * ns - bg2) (CM.2.2.getD CM.1) (CM.1 - bg2)) CM.2.1 j x.2) ∧ (∀ x, G3.2.1 x ≤ 2 ^ 39) ∧ FR [13, 15, 82] lyJ [59] lyB σ σ' := by
  have hY0 := hY
  obtain ⟨hT, hl, hnd, hZ⟩ := hY
  have hl1 := hl.1
  have h6 := ar_6 (K := 0) hl1
  have hxl : xs.length ≤ 4096 := by have := hR.2.1.1.2.1; rw [List.length_map] at this; exact this
  have h20 := hR.2.1.1.1
  rw [List.length_map] at h20
  have hol := hR.2.2.1.2.1
  have hsz := PIn_sz hI
  have hoc := Nat.mul_le_mul_right 20480 hol
  -- the names
  obtain ⟨σ1, a1, a2, a3⟩ := q_ly_2 (F := F) (h := h) hm hxl xs.length 0 F σ (by omega) (by omega) h20 (fun q hq => absurd hq (Nat.not_lt_zero q))
  have hR1 := RWg_FR hR a3 (by decide) (by decide) (by decide)
  -- the segments
  obtain ⟨σ2, b1, b2, b3, b4⟩ := q_findSegments (F := F) (h := h) (T := T) hm (by omega) hl (fun x hx => by have := (hZ x hx).1; omega) hWP.2.1 hod (by omega) hR1
  rw [← hth] at b2 b3
  have hR2 := RWg_FR hR1 b4 (by decide) (by decide) (by decide)
  have hit := q_isThreaded (F := F) (h := h) (T := T) hm (by omega) hl (fun x hx => by have := (hZ x hx).1; omega) hR2.1
  have hsg := sgN_le (th := th) 3
  generalize hthr : ll.any (thr1 tb) = thr at *
  obtain ⟨fe0, hfe0⟩ : ∃ x, x = 64 + 56 * sgN th 3 + (if thr = true then 56 else 0) := ⟨_, rfl⟩
  have hfe0b : fe0 ≤ 288 := by rw [hfe0]; split <;> omega
  obtain ⟨σ4, hσ4⟩ : ∃ z, z = sJ (sI σ2 82 (bI thr)) 64 (lN fe0) := ⟨_, rfl⟩
  have f4 : FR [13, 15, 82] lyJ [59] lyB σ2 σ4 := by
    rw [hσ4]
    exact FR_trans (FR_mono (FR_I σ2 82 _) (by decide) (by decide) (by decide) (by decide)) (FR_mono (FR_J _ 64 _) (by decide) (by decide) (by decide) (by decide))
  have f4b : FR [82] [64] [] [] σ2 σ4 := by
    rw [hσ4]
    exact FR_trans (FR_mono (FR_I σ2 82 _) (by decide) (by decide) (by decide) (by decide)) (FR_mono (FR_J _ 64 _) (by decide) (by decide) (by decide) (by decide))
  have F4 : FR [13, 15, 82] lyJ [59] lyB σ σ4 := FR_trans (FR_mono a3 (by decide) (by decide) (by decide) (by decide)) (FR_trans (FR_mono b4 (by decide) (by decide) (by decide) (by decide)) f4)
  have g64 : gJ σ4 64 = lN fe0 := by rw [hσ4, gJ_sJ, if_pos rfl]
  have g82 : gI σ4 82 = bI thr := by rw [hσ4, gI_sJ, gI_sI, if_pos rfl]
  have g59 : ∀ j, j < 3 → gA σ4 59 j = bI (th j) := fun j hj => by rw [f4b.2.2.1 59 (by decide)]; exact b3 j hj
  have g15 : gI σ4 15 = nI (sgN th 3) := by rw [f4b.1 15 (by decide)]; exact b2
  have g13 : gI σ4 13 = nI 0 := by rw [f4b.1 13 (by decide), b4.1 13 (by decide), a3.1 13 (by decide)]; exact h13
  have g29 : ∀ q, q < xs.length → gB σ4 29 q = lN 0 := fun q hq => by rw [f4b.2.2.2 29 (by decide), b4.2.2.2 29 (by decide)]; exact a2 q hq
  have hW4 := RWp_FR hW F4 (by decide) (by decide)
  obtain ⟨F1, hF1⟩ : ∃ x, F = x + 4 := ⟨F - 4, by omega⟩
  -- segment 0
  obtain ⟨bg0, hbg0⟩ : ∃ x, x = bgN 4194304 (upN fe0 16) (th 0) := ⟨_, rfl⟩
  obtain ⟨G0, hG0⟩ : ∃ x, x = ll.foldl (pg1 tb 0 (th 0)) (bg0, (fun _ => 0), none) := ⟨_, rfl⟩
  have w0 := bgN_lt (mem := 4194304) (fp := upN fe0 16) (th := th 0)
  rw [← hbg0] at w0
  have m0 := pgs_m (g := 0) (th := th 0) ll (bg0, (fun _ => 0), none) hZ
  rw [← hG0] at m0
  have m01 : bg0 ≤ G0.1 := m0.1
  have m02 : G0.1 ≤ bg0 + ll.length * 20480 := m0.2
  obtain ⟨σ5, c1, c2, c3, c4, c5, c6⟩ := q_pSeg0 (F := F) (h := h) (fe := fe0) (mem := 4194304) (D := fun _ => False) (ad := fun _ => 0) hm (by omega) hY0 (fun x hx => hx.elim) hW4.1 hW4.2.1 (fun P x _ hx => hx.elim) (g59 0 (by decide)) g64 (by omega) (by decide) G0 (by rw [← hbg0]; exact hG0)
  rw [← hbg0] at c2
  have u0 := upN_le (v := fe0) (a := 16) (by decide)
  obtain ⟨σ6, d1, d2, d3, d4⟩ := q_ly_step (F := F) (g := F1 + 3) hm (by decide) c1 c2 (by rw [c6.2.2.1 59 (by decide)]; exact g59 0 (by decide)) (show gJ σ5 64 = lN fe0 by rw [c6.2.1 64 (by decide)]; exact g64) (by omega) rfl
  have F6 : FR [13, 15, 82] lyJ [59] lyB σ σ6 := FR_trans F4 (FR_trans (FR_mono c6 (by decide) (by decide) (by decide) (by decide)) (FR_mono d4 (by decide) (by decide) (by decide) (by decide)))
  obtain ⟨fe1, hfe1⟩ : ∃ x, x = (if th 0 = true then upN fe0 16 + (G0.1 - bg0) else fe0) := ⟨_, rfl⟩
  obtain ⟨mem1, hmem1⟩ : ∃ x, x = (if th 0 = true then bg0 + (G0.1 - bg0) else 4194304) := ⟨_, rfl⟩
  rw [← hmem1] at d1
  rw [← hfe1] at d2
  have w1 : fe1 < 2 ^ 26 ∧ mem1 < 2 ^ 26 := by rw [hfe1, hmem1]; split <;> omega
  have g596 : ∀ j, j < 3 → gA σ6 59 j = bI (th j) := fun j hj => by rw [d4.2.2.1 59 (by decide), c6.2.2.1 59 (by decide)]; exact g59 j hj
  have hW6 := RWp_FR hW F6 (by decide) (by decide)
  have hpo6 := RPo_FR hpo F6 (by decide) (by decide)
  -- segment 1
  obtain ⟨bg1, hbg1⟩ : ∃ x, x = bgN mem1 (upN fe1 16) (th 1) := ⟨_, rfl⟩
  obtain ⟨G1, hG1⟩ : ∃ x, x = ll.foldl (pg1 tb 1 (th 1)) (bg1, G0.2.1, none) := ⟨_, rfl⟩
  have w1b := bgN_lt (mem := mem1) (fp := upN fe1 16) (th := th 1)
  rw [← hbg1] at w1b
  have m1 := pgs_m (g := 1) (th := th 1) ll (bg1, G0.2.1, none) hZ
  rw [← hG1] at m1
  have m11 : bg1 ≤ G1.1 := m1.1
  have m12 : G1.1 ≤ bg1 + ll.length * 20480 := m1.2
  obtain ⟨σ7, k1, k2, k3, k4, k5, k6⟩ := q_pSeg1 (F := F) (h := h) (fe := fe1) (mem := mem1) (D := fun x => False ∨ cnd tb 0 x = true) (ad := G0.2.1) hm hF hY0 (fun x hx => hx.elim (fun q => q.elim) (fun q => ⟨cnd_x q (by decide), cnd_0s q (by decide)⟩)) hW6 hn hI hpo6 (RAd_FR c4 d4 (by decide)) (g596 1 (by decide)) d2 (by omega) (by omega) G1 (by rw [← hbg1]; exact hG1)
  rw [← hbg1] at k2
  have u1 := upN_le (v := fe1) (a := 16) (by decide)
  generalize hps : psz B (pf0 B tO tb ll) = ps at *
  obtain ⟨σ8, p1, p2, p3, p4⟩ := q_ly_step (F := F) (g := F1 + 2) hm (by decide) k1 k2 (by rw [k6.2.2.1 59 (by decide)]; exact g596 1 (by decide)) (show gJ σ7 64 = lN fe1 by rw [k6.2.1 64 (by decide)]; exact d2) (by omega) rfl
  have F8 : FR [13, 15, 82] lyJ [59] lyB σ σ8 := FR_trans F6 (FR_trans (FR_mono k6 (by decide) (by decide) (by decide) (by decide)) (FR_mono p4 (by decide) (by decide) (by decide) (by decide)))
  obtain ⟨fe2, hfe2⟩ : ∃ x, x = (if th 1 = true then upN fe1 16 + (G1.1 + ps - bg1) else fe1) := ⟨_, rfl⟩
  obtain ⟨mem2, hmem2⟩ : ∃ x, x = (if th 1 = true then bg1 + (G1.1 + ps - bg1) else mem1) := ⟨_, rfl⟩
  rw [← hmem2] at p1
  rw [← hfe2] at p2
  have w2' : fe2 < 2 ^ 27 ∧ mem2 < 2 ^ 28 := by rw [hfe2, hmem2]; split <;> omega
  have g598 : ∀ j, j < 3 → gA σ8 59 j = bI (th j) := fun j hj => by rw [p4.2.2.1 59 (by decide), k6.2.2.1 59 (by decide)]; exact g596 j hj
  have hW8 := RWp_FR hW F8 (by decide) (by decide)
  have hR8 : RWg σ8 tq tb ll xs od on rn ns := RWg_FR hR F8 (by decide) (by decide) (by decide)
  -- segment 2
  obtain ⟨bg2, hbg2⟩ : ∃ x, x = bgN mem2 (upN fe2 16) (th 2) := ⟨_, rfl⟩
  obtain ⟨AD, hAD⟩ : ∃ x, x = psF B (pf0 B tO tb ll) tO tb G1.1 G1.2.1 := ⟨_, rfl⟩
  rw [← hAD] at k4
  obtain ⟨G4, hG4⟩ : ∃ x, x = ll.foldl (pg1 tb 4 (th 2)) (bg2, AD, none) := ⟨_, rfl⟩
  obtain ⟨G5, hG5⟩ : ∃ x, x = ll.foldl (pg1 tb 5 (th 2)) (G4.1, G4.2.1, none) := ⟨_, rfl⟩
  obtain ⟨G2, hG2⟩ : ∃ x, x = ll.foldl (pg1 tb 2 (th 2)) (G4.1, G5.2.1, none) := ⟨_, rfl⟩
  obtain ⟨sp, hsp⟩ : ∃ x, x = (if 0 < ns then upN G2.1 8 else G2.1) := ⟨_, rfl⟩
  obtain ⟨G3, hG3⟩ : ∃ x, x = ll.foldl (pg1 tb 3 (th 2)) (sp + 8 * ns, G2.2.1, none) := ⟨_, rfl⟩
  obtain ⟨CM, hCM⟩ : ∃ x, x = od.foldl (pc1 xs on rn (th 2)) (G3.1, (fun _ => 0), G3.2.2) := ⟨_, rfl⟩
  have hNa8 : RNa σ8 xs.length (fun _ => 0) := fun n hn => by
    rw [p4.2.2.2 29 (by decide), k6.2.2.2 29 (by decide), d4.2.2.2 29 (by decide), c6.2.2.2 29 (by decide)]
    exact g29 n hn
  obtain ⟨σ9, q1, q2, q3, q4, q5, q6, q7, q8⟩ := q_pSeg2 (F := F) (h := h) (fe := fe2) (mem := mem2) (D := fun x => ((False ∨ cnd tb 0 x = true) ∨ cnd tb 1 x = true) ∨ sS tb x = true) (ad := AD) (on := on) (rn := rn) hm (by omega) hY0 (fun x hx => by
    rcases hx with ((q | q) | q) | q
    · exact q.elim
    · exact ⟨cnd_x q (by decide), cnd_x q (by decide), cnd_x q (by decide), cnd_x q (by decide)⟩
    · exact ⟨cnd_x q (by decide), cnd_x q (by decide), cnd_x q (by decide), cnd_x q (by decide)⟩
    · exact ⟨cnd_s q (by decide), cnd_s q (by decide), cnd_s q (by decide), cnd_s q (by decide)⟩) hW8.1 hR8 hWP.2.1 hod hcm hns (RAd_FR k4 p4 (by decide)) hNa8 (g598 2 (by decide)) p2 (by omega) (by omega) bg2 hbg2 G4 G5 G2 G3 CM sp hG4 hG5 hG2 hsp hG3 hCM
  have w2b := bgN_lt (mem := mem2) (fp := upN fe2 16) (th := th 2)
  rw [← hbg2] at w2b
  have m4 := pgs_m (g := 4) (th := th 2) ll (bg2, AD, none) hZ
  rw [← hG4] at m4
  have m41 : bg2 ≤ G4.1 := m4.1
  have m42 : G4.1 ≤ bg2 + ll.length * 20480 := m4.2
  have m2 := pgs_m (g := 2) (th := th 2) ll (G4.1, G5.2.1, none) hZ
  rw [← hG2] at m2
  have m21 : G4.1 ≤ G2.1 := m2.1
  have m22 : G2.1 ≤ G4.1 + ll.length * 20480 := m2.2
  have hspb : G2.1 ≤ sp ∧ sp < G2.1 + 8 := by
    rw [hsp]
    split
    · have := upN_le (v := G2.1) (a := 8) (by decide); omega
    · omega
  have m3 := pgs_m (g := 3) (th := th 2) ll (sp + 8 * ns, G2.2.1, none) hZ
  rw [← hG3] at m3
  have m31 : sp + 8 * ns ≤ G3.1 := m3.1
  have m32 : G3.1 ≤ sp + 8 * ns + ll.length * 20480 := m3.2
  have mc := pcs_m (on := on) (rn := rn) (th := th 2) hcm od (G3.1, (fun _ => 0), G3.2.2) hod
  rw [← hCM] at mc
  have mc1 : G3.1 ≤ CM.1 := mc.1
  have mc2 : CM.1 ≤ G3.1 + od.length * 20480 := mc.2
  have u2 := upN_le (v := fe2) (a := 16) (by decide)
  obtain ⟨σ10, r1, r2, r3, r4⟩ := q_ly_step (F := F) (g := F1 + 1) hm (by decide) q1 q2 (by rw [q8.2.2.1 59 (by decide)]; exact g598 2 (by decide)) (show gJ σ9 64 = lN fe2 by rw [q8.2.1 64 (by decide)]; exact p2) (by omega) rfl
  have F10 : FR [13, 15, 82] lyJ [59] lyB σ σ10 := FR_trans F8 (FR_trans (FR_mono q8 (by decide) (by decide) (by decide) (by decide)) (FR_mono r4 (by decide) (by decide) (by decide) (by decide)))
  obtain ⟨fe3, hfe3⟩ : ∃ x, x = (if th 2 = true then upN fe2 16 + (sp + 8 * ns - bg2) else fe2) := ⟨_, rfl⟩
  rw [← hfe3] at r2
  have w3 : fe3 < 2 ^ 30 := by rw [hfe3]; split <;> omega
  -- where all lies
  have had0 : ∀ x, G0.2.1 x ≤ 2 ^ 39 := by rw [hG0]; exact pg_ad (g := 0) (th := th 0) (K := 2 ^ 39) ll (bg0, (fun _ => 0), none) hZ (fun x => Nat.zero_le _) (show bg0 + ll.length * 20480 ≤ 2 ^ 39 by omega)
  have had1 : ∀ x, G1.2.1 x ≤ 2 ^ 39 := by rw [hG1]; exact pg_ad (g := 1) (th := th 1) (K := 2 ^ 39) ll (bg1, G0.2.1, none) hZ had0 (show bg1 + ll.length * 20480 ≤ 2 ^ 39 by omega)
  have hadS : ∀ x, AD x ≤ 2 ^ 39 := by rw [hAD]; exact psF_le had1 (by rw [hps]; omega)
  have had4 : ∀ x, G4.2.1 x ≤ 2 ^ 39 := by rw [hG4]; exact pg_ad (g := 4) (th := th 2) (K := 2 ^ 39) ll (bg2, AD, none) hZ hadS (show bg2 + ll.length * 20480 ≤ 2 ^ 39 by omega)
  have had5 : ∀ x, G5.2.1 x ≤ 2 ^ 39 := by rw [hG5]; exact pg_ad (g := 5) (th := th 2) (K := 2 ^ 39) ll (G4.1, G4.2.1, none) hZ had4 (show G4.1 + ll.length * 20480 ≤ 2 ^ 39 by omega)
  have had2 : ∀ x, G2.2.1 x ≤ 2 ^ 39 := by rw [hG2]; exact pg_ad (g := 2) (th := th 2) (K := 2 ^ 39) ll (G4.1, G5.2.1, none) hZ had5 (show G4.1 + ll.length * 20480 ≤ 2 ^ 39 by omega)
  have had3 : ∀ x, G3.2.1 x ≤ 2 ^ 39 := by rw [hG3]; exact pg_ad (g := 3) (th := th 2) (K := 2 ^ 39) ll (sp + 8 * ns, G2.2.1, none) hZ had2 (show sp + 8 * ns + ll.length * 20480 ≤ 2 ^ 39 by omega)
  have hA10 : RAd σ10 ll (fun _ => True) G3.2.1 := fun P x hx _ => by
    have := RAd_FR q5 r4 (by decide)
    exact this P x hx cnd_all
  -- the answer
  obtain ⟨an, han⟩ : ∃ x, x = (if lyA th (G0.1 - bg0) (G1.1 + ps - bg1) (CM.1 - bg2) fe3 = true then 3 else 0) := ⟨_, rfl⟩
  have i5 : gI σ5 13 = nI 0 := by rw [c6.1 13 (by decide)]; exact g13
  have i7 : gI σ7 13 = gI σ6 13 := k6.1 13 (by decide)
  have i9 : gI σ9 13 = gI σ8 13 := q8.1 13 (by decide)
  obtain ⟨σ11, s1, s2, s3⟩ : ∃ σ11, f_M_layout_151 F m (mh m h σ10) = f_M_layout_167 F m (mh m h σ11) ∧ gI σ11 13 = nI an ∧ FR [13] [] [] [] σ10 σ11 := by
    unfold f_M_layout_151
    rw [Mg64 hm, bs, r2, show (65536 : Int64) = lN 65536 from rfl]
    have e13 : gI σ10 13 = nI (if ((th 0 && decide (65536 < G0.1 - bg0)) || (th 1 && decide (65536 < G1.1 + ps - bg1)) || (th 2 && decide (65536 < CM.1 - bg2))) = true then 3 else 0) := by
      rw [r3, i9, p3, i7, d3, i5]
      cases (th 0 && decide (65536 < G0.1 - bg0)) <;> cases (th 1 && decide (65536 < G1.1 + ps - bg1)) <;> cases (th 2 && decide (65536 < CM.1 - bg2)) <;> rfl
    have ea : lyA th (G0.1 - bg0) (G1.1 + ps - bg1) (CM.1 - bg2) fe3 = (((th 0 && decide (65536 < G0.1 - bg0)) || (th 1 && decide (65536 < G1.1 + ps - bg1)) || (th 2 && decide (65536 < CM.1 - bg2))) || decide (65536 < fe3)) := by
      unfold lyA
      rw [Bool.or_assoc, Bool.or_assoc, Bool.or_assoc]
    rw [han, ea]
    by_cases c : 65536 < fe3
    · rw [if_neg (fun q => by have := (pk_lLE (show fe3 < 2 ^ 63 by omega) (by decide)).mp q; omega), Mp13 hm, bs, decide_eq_true c, Bool.or_true]
      exact ⟨sI σ10 13 (nI 3), rfl, by rw [gI_sI, if_pos rfl]; rfl, FR_I σ10 13 _⟩
    · rw [if_pos ((pk_lLE (show fe3 < 2 ^ 63 by omega) (by decide)).mpr (by omega)), decide_eq_false c, Bool.or_false]
      exact ⟨σ10, rfl, e13, FR_refl σ10⟩
  have F11 : FR [13, 15, 82] lyJ [59] lyB σ σ11 := FR_trans F10 (FR_mono s3 (by decide) (by decide) (by decide) (by decide))
  have hW11 := RWp_FR hW F11 (by decide) (by decide)
  -- the template
  have RS2 : RSeg σ11 2 (upN fe2 16) bg2 (sp + 8 * ns - bg2) (CM.1 - bg2) := RSeg_FR (RSeg_FR q2 r4 (by decide)) s3 (by decide)
  have hft := ft_le (tb := tb) (ad := G3.2.1) (K := 2 ^ 40) ll (false, 0, 1, 0) (fun x hx => by have := had3 x; have := (hZ x hx).1; omega) (Nat.zero_le _)
  obtain ⟨σ12, t1, t2, t3⟩ := q_findTemplate (F := F) (h := h) (ad := G3.2.1) (bg2 := bg2) hm (by omega) hl hZ hW11.1 hW11.2.1 (fun P x hx _ => RAd_FR hA10 s3 (by decide) P x hx trivial) RS2.2.1 (by omega)
  have F12 : FR [13, 15, 82] lyJ [59] lyB σ σ12 := FR_trans F11 (FR_mono t3 (by decide) (by decide) (by decide) (by decide))
  have hA12 := RAd_FR (RAd_FR hA10 s3 (by decide)) t3 (by decide)
  have RS2' := RSeg_FR RS2 t3 (by decide)
  have j90 : gJ σ12 90 = lN G1.1 := by rw [t3.2.1 90 (by decide), s3.2.1 90 (by decide), r4.2.1 90 (by decide), q8.2.1 90 (by decide), p4.2.1 90 (by decide)]; exact k3
  have j80 : gJ σ12 80 = lN G0.1 := by rw [t3.2.1 80 (by decide), s3.2.1 80 (by decide), r4.2.1 80 (by decide), q8.2.1 80 (by decide), p4.2.1 80 (by decide), k6.2.1 80 (by decide), d4.2.1 80 (by decide)]; exact c3
  have j81 : gJ σ12 81 = lN (CM.2.2.getD CM.1) := by rw [t3.2.1 81 (by decide), s3.2.1 81 (by decide), r4.2.1 81 (by decide)]; exact q4
  have j79 : gJ σ12 79 = lN sp := by rw [t3.2.1 79 (by decide), s3.2.1 79 (by decide), r4.2.1 79 (by decide)]; exact q3
  have j64 : gJ σ12 64 = lN fe3 := by rw [t3.2.1 64 (by decide), s3.2.1 64 (by decide)]; exact r2
  -- the names
  obtain ⟨σ13, v1, v2, v3⟩ := q_ly_173 (F := F) (h := h) (na := CM.2.1) (te := G0.1) (bg2 := bg2) (fb2 := sp + 8 * ns - bg2) (bss := CM.2.2.getD CM.1) (mb2 := CM.1 - bg2) (pp := G1.1) (ad := G3.2.1) hm hF hWP hown hl hn hI hS xs.length 0 F σ12 (by omega) (by omega) (RL_FR hR.2.1 F12 (by decide) (by decide) (by decide)) (RWp_FR hW F12 (by decide) (by decide)) (RPo_FR hpo F12 (by decide) (by decide)) (fun i hi => by rw [F12.2.2.1 65 (by decide)]; exact hd i hi) (RSt_FR hs F12 (by decide) (by decide)) j90 (fun x hx _ => by
    obtain ⟨P, hP⟩ := List.getElem?_of_mem hx
    exact (hA12 P x hP trivial).2) j80 RS2'.2.1 RS2'.2.2.1 j81 RS2'.2.2.2 (fun j _ hj => by rw [t3.2.2.2 29 (by decide), s3.2.2.2 29 (by decide), r4.2.2.2 29 (by decide)]; exact q6 j hj) (fun j x hj => absurd hj (Nat.not_lt_zero j))
  have F13 : FR [13, 15, 82] lyJ [59] lyB σ σ13 := FR_trans F12 (FR_mono v3 (by decide) (by decide) (by decide) (by decide))
  refine ⟨σ13, fe0, bg0, G0, fe1, mem1, bg1, G1, fe2, mem2, bg2, G4, G5, G2, sp, G3, CM, fe3, ?_, ?_, ?_, ⟨?_, ?_, ?_⟩, ⟨?_, ?_, RSeg_FR RS2' v3 (by decide)⟩, ⟨?_, ?_, ?_, ?_⟩, RAd_FR hA12 v3 (by decide), v2, had3, F13⟩
  · unfold LYe
    rw [hps, hthr, ← hAD]
    exact ⟨hfe0, hbg0, hG0, hfe1, hmem1, hbg1, hG1, hfe2, hmem2, hbg2, hG4, hG5, hG2, hsp, hG3, hCM, hfe3⟩
  · unfold f_M_layout
    rw [a1]
    unfold f_M_layout_23
    have q15 : gI (sI σ2 82 (bI thr)) 15 = nI (sgN th 3) := by rw [gI_sI, if_neg (by decide)]; exact b2
    have q82 : gI (sI σ2 82 (bI thr)) 82 = bI thr := by rw [gI_sI, if_pos rfl]
    rw [e_o hm, bs, b1, xb_mk, e_o hm, bs, hit, xb_mk, Mz82 hm, bs, Mg15 hm, bs, q15, Mg82 hm, bs, q82, nI_l (by omega)]
    have e63 : (if bI thr = 0 then f_M_layout_63 F m m ((64 : Int64) + (56 : Int64) * lN (sgN th 3)) (lN 0) (mh m h (sI σ2 82 (bI thr))) else f_M_layout_63 F m m ((64 : Int64) + (56 : Int64) * lN (sgN th 3)) (56 : Int64) (mh m h (sI σ2 82 (bI thr)))) = f_M_layout_73 F F m (4194304 : Int64) (nI 0) (mh m h σ4) := by
      unfold f_M_layout_63
      rw [show (64 : Int64) = lN 64 from rfl, show (56 : Int64) = lN 56 from rfl, lN_mul, lN_add]
      cases ethr : thr with
      | false =>
        rw [ethr, if_neg (by decide)] at hfe0
        rw [if_pos (show bI false = 0 from rfl), lN_add, Mp64 hm, bs, ← hfe0, hσ4, ethr]
      | true =>
        rw [ethr, if_pos rfl] at hfe0
        rw [if_neg (show ¬ bI true = 0 by decide), lN_add, Mp64 hm, bs, ← hfe0, hσ4, ethr]
    rw [e63, show (4194304 : Int64) = lN 4194304 from rfl, show f_M_layout_73 F F m = f_M_layout_73 F (F1 + 4) m by rw [← hF1], d1, p1, r1]
    unfold f_M_layout_73
    rw [if_pos (by decide), s1]
    unfold f_M_layout_167
    rw [e_o hm, bs, t1, xb_mk, v1]
  · rw [v3.1 13 (by decide), t3.1 13 (by decide), s2, han]
  · rw [v3.1 15 (by decide), t3.1 15 (by decide), s3.1 15 (by decide), r4.1 15 (by decide), q8.1 15 (by decide), p4.1 15 (by decide), k6.1 15 (by decide), d4.1 15 (by decide), c6.1 15 (by decide)]; exact g15
  · intro j hj
    rw [v3.2.2.1 59 (by decide), t3.2.2.1 59 (by decide), s3.2.2.1 59 (by decide), r4.2.2.1 59 (by decide), q8.2.2.1 59 (by decide)]; exact g598 j hj
  · rw [v3.1 82 (by decide), t3.1 82 (by decide), s3.1 82 (by decide), r4.1 82 (by decide), q8.1 82 (by decide), p4.1 82 (by decide), k6.1 82 (by decide), d4.1 82 (by decide), c6.1 82 (by decide)]; exact g82
  · exact RSeg_FR (RSeg_FR (RSeg_FR (RSeg_FR (RSeg_oth (RSeg_FR (RSeg_oth (RSeg_FR c2 d4 (by decide)) k5 (by decide)) p4 (by decide)) q7 (by decide)) r4 (by decide)) s3 (by decide)) t3 (by decide)) v3 (by decide)
  · exact RSeg_FR (RSeg_FR (RSeg_FR (RSeg_FR (RSeg_oth (RSeg_FR k2 p4 (by decide)) q7 (by decide)) r4 (by decide)) s3 (by decide)) t3 (by decide)) v3 (by decide)
  · rw [v3.2.1 64 (by decide)]; exact j64
  · rw [v3.2.1 79 (by decide)]; exact j79
  · rw [v3.2.1 90 (by decide)]; exact j90
  · rw [v3.2.1 87 (by decide)]; exact t2
end MLB
end
section
/-! symbolAddress, siteAddress, isOfStrings, siteValue of the reference -/
/-- what the sites read -/
def RFn (σ : px_S) (T : Nat) (tO tn tq : Nat → Nat) (tb : Nat → Nat → Nat) (dr : Nat → Bool) (xs : px_NL) (on : Bool) (R : Nat → Bool) (ll : List Nat) (B : Nat → Nat) (sl : List Nat) (NA : Nat → Int64) (ad : Nat → Nat) (sp tp pp : Nat) : Prop := (RWp σ T tO tn tq tb ll B ∧ RPo σ B (nd0 B tO tb ll) (pf0 B tO tb ll)) ∧ (RDr σ dr ∧ RSt σ on R ∧ RL σ xs) ∧ RSl tb xs σ sl ∧ (∀ j, j < xs.length → gB σ 29 j = NA j) ∧ (∀ x, x ∈ ll → gB σ 58 x = lN (ad x)) ∧ gJ σ 79 = lN sp ∧ gJ σ 87 = lN tp ∧ gJ σ 90 = lN pp ∧ gI σ 14 = nI T
/-- what is known of that -/
def FNo (T : Nat) (tO : Nat → Nat) (tb : Nat → Nat → Nat) (dr : Nat → Bool) (xs : px_NL) (sy : Nat → Nat → Bool) (ll : List Nat) (B : Nat → Nat) (sl : List Nat) : Prop := WP T tb dr xs ∧ llP T tb ll ∧ ndB B (nd0 B tO tb ll) ∧ PIn B (nd0 B tO tb ll) (pf0 B tO tb ll) ∧ llS T tb sy ll ∧ SLN T tb ∧ SLI T tb sl
def syA (tb : Nat → Nat → Nat) (xs : px_NL) (OV : Nat → Nat → Int64) (NA : Nat → Int64) (t k : Nat) : Int64 := if k = 0 then lN 0 else if yB (tb t) k = 0 then OV t k else NA (plc (yT (tb t) k) (xs.map Prod.fst))
def siA (tb : Nat → Nat → Nat) (ad : Nat → Nat) (t i j : Nat) : Int64 := lN (ad (24 * t + oI (tb t) i) + sL (tb t) i j)
def ofS (tb : Nat → Nat → Nat) (dr : Nat → Bool) (sy : Nat → Nat → Bool) (t k : Nat) : Bool := decide (k ≠ 0 ∧ yB (tb t) k = 0 ∧ tb t (yP (tb t) k + 4) % 16 = 3) && (isN tb t (wNo dr t (tb t) k) && (sy t (wNo dr t (tb t) k) && oStr (tb t) (wNo dr t (tb t) k)))
section MSV
variable {F m T t k i j : Nat} {h : px_H} {σ : px_S} {B : Nat → Nat} {tb : Nat → Nat → Nat} {tO tn tq : Nat → Nat} {dr : Nat → Bool} {xs : px_NL} {ll sl : List Nat} {on : Bool} {R : Nat → Bool} {NA : Nat → Int64} {ad : Nat → Nat} {sp tp pp : Nat}
theorem lN_mod (a : Nat) : lN a = lN (a % 2 ^ 64) := by
  apply Int64.toBitVec_inj.mp
  show BitVec.ofNat 64 a = BitVec.ofNat 64 (a % 2 ^ 64)
  exact BitVec.eq_of_toNat_eq (by rw [BitVec.toNat_ofNat, BitVec.toNat_ofNat, Nat.mod_mod])
theorem O_b15 {o n x : Nat} {b : Nat → Nat} (hb : OB σ t o n b) (hx : x < n) : gA σ 6 (o + x) &&& nI 15 = nI (b x % 16) := by
  have h1 := pk_and (m := nI 15) (gA σ 6 (o + x)) 4 (by decide)
  have h2 := O_b8 hb hx
  unfold b8 at h2
  rw [h1, ← h2]
  congr 1
  omega
theorem q_symbolAddress (hm : m ≤ h.length) (hF : 65540 < F) (hf : RFn σ T tO tn tq tb dr xs on R ll B sl NA ad sp tp pp) (hN : FNo T tO tb dr xs (sta tb dr on R) ll B sl) (ht : t < T) (hk : k < oM (tb t)) : f_M_symbolAddress F m (nI t) (nI k) (mh m h σ) = some (syA tb xs (ownV B (pf0 B tO tb ll) tO tb dr (sta tb dr on R) pp ad) NA t k, mh m h σ) := by
  obtain ⟨⟨hW, hpo⟩, ⟨hd, hs, hr⟩, hsl, hna, had, h79, h87, h90, h14⟩ := hf
  obtain ⟨n1, n2, n3, n4, n5, n6, n7⟩ := hN
  have hb := hW.1 t ht
  have hB16 := OB_yB (k := k) hb
  have hM := w2_M (OB_w hb)
  unfold f_M_symbolAddress f_M_symbolAddress_43 syA
  by_cases c0 : k = 0
  · rw [if_pos (by rw [c0]; rfl), if_pos c0]
  · rw [if_neg (show ¬ nI k = 0 from fun q => c0 ((nI_eq (b := 0) (by omega) (by decide)).mp q)), if_neg c0, e_o hm, bs, O_obj hm hb, xb_mk, e_o hm, bs, O_bind hm (by omega) hb hk, xb_mk]
    by_cases c1 : yB (tb t) k = 0
    · have hc : yW (tb t) k ≠ 65522 := by
        have hy := OB_y hb (show 1 ≤ k by omega) hk
        unfold yOK at hy
        exact (of_decide_eq_true hy).2.2.1 c1
      rw [if_pos (by rw [c1]; rfl), if_pos c1, e_o hm, bs, q_own hm hF hW n2 n3 hpo n4 hd hs n5 h90 (fun x hx _ => had x hx) ht (by omega) hk hc, xb_mk]
    · obtain ⟨x, x1, x2, x3⟩ := plc_ix (n1.2.2.2.1 t k ht (by omega) hk c1)
      have hil := (List.getElem?_eq_some_iff.mp x1).1
      have hxl : xs.length ≤ 4096 := by have := hr.1.2.1; rw [List.length_map] at this; exact this
      rw [if_neg (show ¬ nI (yB (tb t) k) = 0 from fun q => c1 ((nI_eq (b := 0) (by omega) (by decide)).mp q)), if_neg c1, Mr29 hm, bs, e_o hm, bs, O_obj hm hb, xb_mk, e_o hm, bs, O_name hm (by omega) hb hr (by omega) hk c1, xb_mk, x3]
      rw [show tdA (some (plc (yT (tb t) k) (xs.map Prod.fst))) = nI (plc (yT (tb t) k) (xs.map Prod.fst)) from rfl, Ma29 hm (by omega), bs, hna _ hil]
theorem q_siteAddress (hm : m ≤ h.length) (hF : 65540 < F) (hf : RFn σ T tO tn tq tb dr xs on R ll B sl NA ad sp tp pp) (hN : FNo T tO tb dr xs (sta tb dr on R) ll B sl) (ht : t < T) (h1 : 1 ≤ i) (hi : i < oS (tb t)) (hs : isS (tb t) i = true) (hj : j < sN (tb t) i) (hsta : sta tb dr on R t (oI (tb t) i) = true) (h1o : 1 ≤ oI (tb t) i) : f_M_siteAddress F m (nI t) (nI i) (nI j) (mh m h σ) = some (siA tb ad t i j, mh m h σ) := by
  obtain ⟨⟨hW, hpo⟩, ⟨hd, hst, hr⟩, hsl, hna, had, h79, h87, h90, h14⟩ := hf
  obtain ⟨n1, n2, n3, n4, n5, n6, n7⟩ := hN
  have hb := hW.1 t ht
  have he := eSit_0 hb.2.2.2.1 h1 hi hs
  have hS24 := (OB_w hb).1.2.1.2
  have ht64 := hb.1.1
  have hp := OB_sP hb h1 hi hs hj
  have hin := n5 t (oI (tb t) i) ht h1o he.1 hsta
  have hio := he.1
  unfold f_M_siteAddress siA
  rw [Mr58 hm, bs, e_o hm, bs, O_obj hm hb, xb_mk, e_o hm, bs, O_info hm (by omega) hb hi, xb_mk, lN_i, pk_mul, nI_add, Ma58 hm (by omega), bs, had _ hin, e_o hm, bs, O_obj hm hb, xb_mk, e_o hm, bs, O_site hm (by omega) hb hi, xb_mk, e_o hm, bs, O_sL hm (by omega) hb hp, xb_mk, lN_add]
theorem q_isOfStrings (hm : m ≤ h.length) (hF : 65540 < F) (hf : RFn σ T tO tn tq tb dr xs on R ll B sl NA ad sp tp pp) (ht : t < T) (hk : k < oM (tb t)) : f_M_isOfStrings F m (nI t) (nI k) (mh m h σ) = some (bI (ofS tb dr (sta tb dr on R) t k), mh m h σ) := by
  obtain ⟨⟨hW, hpo⟩, ⟨hd, hst, hr⟩, hsl, hna, had, h79, h87, h90, h14⟩ := hf
  have hb := hW.1 t ht
  have hB16 := OB_yB (k := k) hb
  have hM := w2_M (OB_w hb)
  have hyP := w2_y (OB_w hb) hk
  have hwl := wNo_lt (k := k) (dr := dr) hb
  unfold f_M_isOfStrings f_M_isOfStrings_39 f_M_isOfStrings_83 f_M_isOfStrings_84 ofS
  rw [e_o hm, bs, O_obj hm hb, xb_mk]
  by_cases c0 : k = 0
  · rw [if_pos (by rw [c0]; rfl), decide_eq_false (fun q => q.1 c0)]; rfl
  · rw [if_neg (show ¬ nI k = 0 from fun q => c0 ((nI_eq (b := 0) (by omega) (by decide)).mp q)), e_o hm, bs, O_bind hm (by omega) hb hk, xb_mk]
    by_cases c1 : yB (tb t) k = 0
    · have hx : yP (tb t) k + 4 < tn t := by omega
      rw [if_pos (by rw [c1]; rfl), Mr6 hm, bs, e_o hm, bs, O_sym hm (by omega) hb, xb_mk, nI_add, Nat.add_assoc, O_byte hm hb hx, bs, O_b15 hb hx]
      by_cases c2 : tb t (yP (tb t) k + 4) % 16 = 3
      · rw [if_pos (by rw [c2]), e_o hm, bs, O_wNo hm (by omega) hb hd hk, xb_mk, e_o hm, bs, q_isSectionNow hm (by omega) hb (by omega), xb_mk, decide_eq_true ⟨c0, c1, c2⟩, Bool.true_and]
        cases en : isN tb t (wNo dr t (tb t) k) with
        | false => rw [if_pos (show bI false = 0 from rfl), xz_0] <;> rfl
        | true =>
          have hwo : wNo dr t (tb t) k < oS (tb t) := by
            unfold isN at en
            rw [Bool.and_eq_true] at en
            exact (of_decide_eq_true en.1).2
          rw [if_neg (show ¬ bI true = 0 by decide), e_o hm, bs, q_stays hm (by omega) hb hd hst hwo, xb_mk, Bool.true_and]
          cases sta tb dr on R t (wNo dr t (tb t) k) with
          | false => rw [if_pos (show bI false = 0 from rfl), xz_0] <;> rfl
          | true =>
            rw [if_neg (show ¬ bI true = 0 by decide), e_o hm, bs, q_isStrings hm (by omega) hb hwo, xb_mk, Bool.true_and]
            cases oStr (tb t) (wNo dr t (tb t) k) with
            | false => rw [if_pos (show bI false = 0 from rfl), xz_0] <;> rfl
            | true => rw [if_neg (show ¬ bI true = 0 by decide), xz_1] <;> rfl
      · rw [if_neg (fun q => c2 ((nI_eq (by omega) (by decide)).mp q)), decide_eq_false (fun q => c2 q.2.2)]; rfl
    · rw [if_neg (show ¬ nI (yB (tb t) k) = 0 from fun q => c1 ((nI_eq (b := 0) (by omega) (by decide)).mp q)), decide_eq_false (fun q => c1 q.2.1)]; rfl
end MSV
end
section
/-! siteValue of the reference -/
theorem ixB_mono {p : Nat → Bool} {z : Nat} : ∀ {l : List Nat} {k : Nat}, (ixB p k l).isSome = true → (ixB p k (l ++ [z])).isSome = true := by
  intro l
  induction l with
  | nil => intro k h; exact nomatch h
  | cons y l ih =>
    intro k h
    rw [List.cons_append, ixB_s]
    rw [ixB_s] at h
    split
    · rfl
    · rename_i c
      rw [if_neg c] at h
      exact ih h
theorem ixB_last {p : Nat → Bool} {z : Nat} (hz : p z = true) : ∀ {l : List Nat} {k : Nat}, (ixB p k (l ++ [z])).isSome = true := by
  intro l
  induction l with
  | nil => intro k; show (ixB p k [z]).isSome = true; rw [ixB_s, if_pos hz]; rfl
  | cons y l ih =>
    intro k
    rw [List.cons_append, ixB_s]
    split
    · rfl
    · exact ih
theorem sl1_mono {tb : Nat → Nat → Nat} {xs : px_NL} {z : Nat} {sl : List Nat} {p : Nat → Bool} (h : (ixB p 0 sl).isSome = true) : (ixB p 0 (sl1 tb xs z sl)).isSome = true := by
  unfold sl1
  split
  · exact h
  · exact ixB_mono h
theorem sl1_hit {tb : Nat → Nat → Nat} {xs : px_NL} {z : Nat} {sl : List Nat} : (ixB (skE tb xs z) 0 (sl1 tb xs z sl)).isSome = true := by
  unfold sl1
  split
  · rename_i c; exact c
  · exact ixB_last skE_refl
section MFH
variable {tb : Nat → Nat → Nat} {dr : Nat → Bool} {xs : px_NL} {sy : Nat → Nat → Bool} {t i j T : Nat} {p : Nat → Bool}
theorem fsJ_mono {sl : List Nat} (h : (ixB p 0 sl).isSome = true) : (ixB p 0 (fsJ tb dr xs t i j sl)).isSome = true := by
  unfold fsJ
  split
  · exact sl1_mono h
  · exact h
theorem fsI_mono {sl : List Nat} (h : (ixB p 0 sl).isSome = true) : (ixB p 0 (fsI tb dr xs sy t i sl)).isSome = true := by
  unfold fsI
  split
  · exact itr_inv (g := fsJ tb dr xs t i) (P := fun sl => (ixB p 0 sl).isSome = true) (a := 0) (e := 0 + sN (tb t) i) (fun j s _ _ hs => fsJ_mono hs) (sN (tb t) i) 0 sl (Nat.le_refl _) (Nat.le_refl _) h
  · exact h
theorem fsT_mono {sl : List Nat} (h : (ixB p 0 sl).isSome = true) : (ixB p 0 (fsT tb dr xs sy t sl)).isSome = true :=
  itr_inv (g := fsI tb dr xs sy t) (P := fun sl => (ixB p 0 sl).isSome = true) (a := 0) (e := 1 + (oS (tb t) - 1)) (fun j s _ _ hs => fsI_mono hs) (oS (tb t) - 1) 1 sl (by decide) (Nat.le_refl _) h
/-- a site with a slot has one -/
theorem slL_hit (ht : t < T) (h1 : 1 ≤ i) (hi : i < oS (tb t)) (hs : isS (tb t) i = true) (hsy : sy t (oI (tb t) i) = true) (hj : j < sN (tb t) i) (hw : isSl (sH (tb t) i j) = true) (hk : skY tb dr xs t i j = 0) : (ixB (skE tb xs (zOf t (sY (tb t) i j) (sH (tb t) i j))) 0 (slL T tb dr xs sy)).isSome = true := by
  have hJ : ∀ sl, (ixB (skE tb xs (zOf t (sY (tb t) i j) (sH (tb t) i j))) 0 (itr (fsJ tb dr xs t i) 0 (sN (tb t) i) sl)).isSome = true := fun sl =>
    (itr_hit (g := fsJ tb dr xs t i) (M := fun (q : Nat) sl => (ixB (skE tb xs (zOf t (sY (tb t) i q) (sH (tb t) i q))) 0 sl).isSome = true) (v := fun q => q) (Q := fun q => isSl (sH (tb t) i q) = true ∧ skY tb dr xs t i q = 0) (a := 0) (e := sN (tb t) i) (fun q s w _ _ hw => fsJ_mono hw) (fun q s _ _ hq => by
      unfold fsJ
      rw [if_pos hq]
      exact sl1_hit) (sN (tb t) i) 0 sl (Nat.le_refl _) (by omega)).2 j (Nat.zero_le _) (by omega) ⟨hw, hk⟩
  have hI : ∀ sl, (ixB (skE tb xs (zOf t (sY (tb t) i j) (sH (tb t) i j))) 0 (fsT tb dr xs sy t sl)).isSome = true := fun sl =>
    (itr_hit (g := fsI tb dr xs sy t) (M := fun (_ : Nat) sl => (ixB (skE tb xs (zOf t (sY (tb t) i j) (sH (tb t) i j))) 0 sl).isSome = true) (v := fun q => q) (Q := fun q => q = i) (a := 1) (e := oS (tb t)) (fun q s w _ _ hw => fsI_mono hw) (fun q s _ _ hq => by
      rw [hq]
      unfold fsI
      rw [if_pos ⟨hs, hsy⟩]
      exact hJ s) (oS (tb t) - 1) 1 sl (Nat.le_refl _) (by omega)).2 i h1 (by omega) rfl
  exact (itr_hit (g := fsT tb dr xs sy) (M := fun (_ : Nat) sl => (ixB (skE tb xs (zOf t (sY (tb t) i j) (sH (tb t) i j))) 0 sl).isSome = true) (v := fun q => q) (Q := fun q => q = t) (a := 0) (e := T) (fun q s w _ _ hw => fsT_mono hw) (fun q s _ _ hq => by
      rw [hq]
      exact hI s) T 0 [] (Nat.le_refl _) (by omega)).2 t (Nat.zero_le _) (by omega) rfl
end MFH
/-- the number of the slot of symbol k of object t -/
def slX (tb : Nat → Nat → Nat) (xs : px_NL) (sl : List Nat) (t k how : Nat) : Nat := (ixB (skE tb xs (zOf t k how)) 0 sl).getD sl.length
def siV (B : Nat → Nat) (pf : List Nat) (tO : Nat → Nat) (tb : Nat → Nat → Nat) (dr : Nat → Bool) (xs : px_NL) (sy : Nat → Nat → Bool) (sl : List Nat) (SA : Nat → Nat → Int64) (SI : Int64) (sp tp pp t i j : Nat) : Int64 :=
  if 0 < skY tb dr xs t i j then SA t (sY (tb t) i j) + lN (sD (tb t) i j) - SI + (if skY tb dr xs t i j = 3 then lN 1 else lN 0)
  else if (sH (tb t) i j = 1 ∨ sH (tb t) i j = 10 ∨ sH (tb t) i j = 11) ∧ ofS tb dr sy t (sY (tb t) i j) = true then lN (pp + baN B pf (tO t + oP (tb t) (yW (tb t) (sY (tb t) i j))) (oZ (tb t) (yW (tb t) (sY (tb t) i j))) ((yV (tb t) (sY (tb t) i j) + sD (tb t) i j) % 2 ^ 64))
  else if isSl (sH (tb t) i j) = true then lN (sp + 8 * slX tb xs sl t (sY (tb t) i j) (sH (tb t) i j)) + lN (sD (tb t) i j) - SI
  else if sH (tb t) i j = 2 ∨ sH (tb t) i j = 4 then SA t (sY (tb t) i j) + lN (sD (tb t) i j) - SI
  else if sH (tb t) i j = 18 ∨ sH (tb t) i j = 23 then SA t (sY (tb t) i j) + lN (sD (tb t) i j) - lN tp
  else SA t (sY (tb t) i j) + lN (sD (tb t) i j)
section MSX
variable {F m T t k i j : Nat} {h : px_H} {σ : px_S} {B : Nat → Nat} {tb : Nat → Nat → Nat} {tO tn tq : Nat → Nat} {dr : Nat → Bool} {xs : px_NL} {ll : List Nat} {on : Bool} {R : Nat → Bool} {NA : Nat → Int64} {ad : Nat → Nat} {sp tp pp : Nat}
theorem q_sV_216 {sl : List Nat} {V A SI : Int64} (hm : m ≤ h.length) (hsa : f_M_siteAddress F m (nI t) (nI i) (nI j) (mh m h σ) = some (SI, mh m h σ)) (h87 : gJ σ 87 = lN tp) (hH : sH (tb t) i j < 2 ^ 32) : f_M_siteValue_216 F m (nI t) (nI i) (nI j) (lN (sH (tb t) i j)) A V (mh m h σ) = some (if sH (tb t) i j = 2 ∨ sH (tb t) i j = 4 ∨ isSl (sH (tb t) i j) = true then V + A - SI else if sH (tb t) i j = 18 ∨ sH (tb t) i j = 23 then V + A - lN tp else V + A, mh m h σ) := by
  have k2 : (lN (sH (tb t) i j) = (2 : Int64)) ↔ sH (tb t) i j = 2 := lEQ (b := 2) (by omega) (by decide)
  have k4 : (lN (sH (tb t) i j) = (4 : Int64)) ↔ sH (tb t) i j = 4 := lEQ (b := 4) (by omega) (by decide)
  have k18 : (lN (sH (tb t) i j) = (18 : Int64)) ↔ sH (tb t) i j = 18 := lEQ (b := 18) (by omega) (by decide)
  have k23 : (lN (sH (tb t) i j) = (23 : Int64)) ↔ sH (tb t) i j = 23 := lEQ (b := 23) (by omega) (by decide)
  have ks := q_isSlotted (F := F) (h := mh m h σ) (show sH (tb t) i j < 4294967296 by omega)
  rw [show decide (sH (tb t) i j = 9 ∨ sH (tb t) i j = 22 ∨ sH (tb t) i j = 41 ∨ sH (tb t) i j = 42) = isSl (sH (tb t) i j) from rfl] at ks
  generalize sH (tb t) i j = H at *
  unfold f_M_siteValue_216 f_M_siteValue_247 f_M_siteValue_278 f_M_siteValue_290
  simp only [k2, k4, k18, k23, ks, xb_mk, e_o hm, bs, hsa, Mg87 hm, h87]
  by_cases c2 : H = 2
  · rw [if_pos c2, if_pos (Or.inl c2)]
  · rw [if_neg c2]
    by_cases c4 : H = 4
    · rw [if_pos c4, if_pos (Or.inr (Or.inl c4))]
    · rw [if_neg c4]
      cases es : isSl H with
      | true => rw [if_neg (show ¬ bI true = 0 by decide), if_pos (Or.inr (Or.inr rfl))]
      | false =>
        rw [if_pos (show bI false = 0 from rfl), if_neg (show ¬ (H = 2 ∨ H = 4 ∨ false = true) from fun q => q.elim c2 (fun q => q.elim c4 (fun q => nomatch q)))]
        by_cases c5 : H = 18
        · rw [if_pos c5, if_pos (Or.inl c5)]
        · rw [if_neg c5]
          by_cases c6 : H = 23
          · rw [if_pos c6, if_pos (Or.inr c6)]
          · rw [if_neg c6, if_neg (fun q => q.elim c5 c6)]
theorem q_sV_167 (hm : m ≤ h.length) (hF : 65540 < F) (hf : RFn σ T tO tn tq tb dr xs on R ll B (slL T tb dr xs (sta tb dr on R)) NA ad sp tp pp) (hN : FNo T tO tb dr xs (sta tb dr on R) ll B (slL T tb dr xs (sta tb dr on R))) (ht : t < T) (h1 : 1 ≤ i) (hi : i < oS (tb t)) (hs : isS (tb t) i = true) (hj : j < sN (tb t) i) (hsta : sta tb dr on R t (oI (tb t) i) = true) (h1o : 1 ≤ oI (tb t) i) (hsk : skY tb dr xs t i j = 0) : f_M_siteValue_167 F m (nI t) (nI i) (nI j) (lN (sH (tb t) i j)) (nI (sY (tb t) i j)) (lN (sD (tb t) i j)) (mh m h σ) = some (if isSl (sH (tb t) i j) = true then lN (sp + 8 * slX tb xs (slL T tb dr xs (sta tb dr on R)) t (sY (tb t) i j) (sH (tb t) i j)) + lN (sD (tb t) i j) - siA tb ad t i j else if sH (tb t) i j = 2 ∨ sH (tb t) i j = 4 then syA tb xs (ownV B (pf0 B tO tb ll) tO tb dr (sta tb dr on R) pp ad) NA t (sY (tb t) i j) + lN (sD (tb t) i j) - siA tb ad t i j else if sH (tb t) i j = 18 ∨ sH (tb t) i j = 23 then syA tb xs (ownV B (pf0 B tO tb ll) tO tb dr (sta tb dr on R) pp ad) NA t (sY (tb t) i j) + lN (sD (tb t) i j) - lN tp else syA tb xs (ownV B (pf0 B tO tb ll) tO tb dr (sta tb dr on R) pp ad) NA t (sY (tb t) i j) + lN (sD (tb t) i j), mh m h σ) := by
  have hf0 := hf
  have hN0 := hN
  obtain ⟨⟨hW, hpo⟩, ⟨hd, hst, hr⟩, hsl, hna, had, h79, h87, h90, h14⟩ := hf
  obtain ⟨n1, n2, n3, n4, n5, n6, n7⟩ := hN
  have hb := hW.1 t ht
  have he := eSit_0 hb.2.2.2.1 h1 hi hs
  have hok := sOK_0w (he.2.2.2.2.2 j hj)
  have hM := w2_M (OB_w hb)
  have hsH : sH (tb t) i j < 2 ^ 32 := le_lt (OB_lt hb) _ 4
  have hsa := q_siteAddress (F := F) hm hF hf0 hN0 ht h1 hi hs hj hsta h1o
  have ks := q_isSlotted (F := F) (h := mh m h σ) (show sH (tb t) i j < 4294967296 by omega)
  rw [show decide (sH (tb t) i j = 9 ∨ sH (tb t) i j = 22 ∨ sH (tb t) i j = 41 ∨ sH (tb t) i j = 42) = isSl (sH (tb t) i j) from rfl] at ks
  unfold f_M_siteValue_167
  rw [ks, xb_mk]
  cases es : isSl (sH (tb t) i j) with
  | false =>
    rw [if_pos (show bI false = 0 from rfl), if_neg (by decide), e_o hm, bs, q_symbolAddress hm hF hf0 hN0 ht hok.2.1, xb_mk, q_sV_216 (sl := []) hm hsa h87 hsH, es]
    by_cases c2 : sH (tb t) i j = 2 ∨ sH (tb t) i j = 4
    · rw [if_pos c2, if_pos (c2.elim Or.inl (fun q => Or.inr (Or.inl q)))]
    · rw [if_neg c2, if_neg (fun q => c2 (q.elim Or.inl (fun q => q.elim Or.inr (fun q => nomatch q))))]
  | true =>
    have hhit := slL_hit (T := T) ht h1 hi hs hsta hj es hsk
    have ez1 : zOf t (sY (tb t) i j) (sH (tb t) i j) / 2 / 64 = t := by rw [zOf_2]; omega
    have ez2 : zOf t (sY (tb t) i j) (sH (tb t) i j) / 2 % 64 = sY (tb t) i j := by rw [zOf_2]; omega
    have ez3 := zOf_1 (t := t) (k := sY (tb t) i j) (how := sH (tb t) i j)
    obtain ⟨σ1, a1, a2, a3, a4, a5⟩ := q_slotOf (F := F) (h := h) (z := zOf t (sY (tb t) i j) (sH (tb t) i j)) hm (by omega) n6 n1 ⟨hW.1, hd, hr⟩ (by rw [ez1, ez2]; exact ⟨ht, hok.2.1⟩) hsl n7
    rw [ez1, ez2, ez3, a4 hhit] at a1
    obtain ⟨x, hx⟩ := Option.isSome_iff_exists.mp hhit
    have hxl := ixB_lt hx
    have hll := n6 _ n7
    have exl : slX tb xs (slL T tb dr xs (sta tb dr on R)) t (sY (tb t) i j) (sH (tb t) i j) = x := by unfold slX; rw [hx]; rfl
    rw [hx] at a1
    have a1 : f_M_slotOf F m (nI t) (nI (sY (tb t) i j)) (bI (decide (sH (tb t) i j = 22))) (mh m h σ) = some (nI x, mh m h σ) := a1
    have e200 : f_M_siteValue_200 F m (nI t) (nI i) (nI j) (lN (sH (tb t) i j)) (lN (sD (tb t) i j)) (lN sp) (8 : Int64) m (nI t) (nI (sY (tb t) i j)) (bI (decide (sH (tb t) i j = 22))) (mh m h σ) = some (lN (sp + 8 * x) + lN (sD (tb t) i j) - siA tb ad t i j, mh m h σ) := by
      unfold f_M_siteValue_200
      rw [e_o hm, bs, a1, xb_mk, nI_l (by omega), show (8 : Int64) = lN 8 from rfl, lN_mul, lN_add, q_sV_216 (sl := []) hm hsa h87 hsH, es, if_pos (Or.inr (Or.inr rfl))]
    rw [if_neg (show ¬ bI true = 0 by decide), if_pos rfl, Mg79 hm, bs, h79, exl]
    by_cases c22 : sH (tb t) i j = 22
    · rw [decide_eq_true c22] at e200
      rw [if_pos (show lN (sH (tb t) i j) = (22 : Int64) by rw [c22]; rfl)]
      exact e200
    · rw [decide_eq_false c22] at e200
      rw [if_neg (show ¬ lN (sH (tb t) i j) = (22 : Int64) from fun q => c22 ((lEQ (b := 22) (by omega) (by decide)).mp q))]
      exact e200
theorem q_siteValue (hm : m ≤ h.length) (hF : 65540 < F) (hf : RFn σ T tO tn tq tb dr xs on R ll B (slL T tb dr xs (sta tb dr on R)) NA ad sp tp pp) (hN : FNo T tO tb dr xs (sta tb dr on R) ll B (slL T tb dr xs (sta tb dr on R))) (ht : t < T) (h1 : 1 ≤ i) (hi : i < oS (tb t)) (hs : isS (tb t) i = true) (hj : j < sN (tb t) i) (hsta : sta tb dr on R t (oI (tb t) i) = true) (h1o : 1 ≤ oI (tb t) i) : f_M_siteValue F m (nI t) (nI i) (nI j) (mh m h σ) = some (siV B (pf0 B tO tb ll) tO tb dr xs (sta tb dr on R) (slL T tb dr xs (sta tb dr on R)) (syA tb xs (ownV B (pf0 B tO tb ll) tO tb dr (sta tb dr on R) pp ad) NA) (siA tb ad t i j) sp tp pp t i j, mh m h σ) := by
  have hf0 := hf
  have hN0 := hN
  obtain ⟨⟨hW, hpo⟩, ⟨hd, hst, hr⟩, hsl, hna, had, h79, h87, h90, h14⟩ := hf
  obtain ⟨n1, n2, n3, n4, n5, n6, n7⟩ := hN
  have hb := hW.1 t ht
  have he := eSit_0 hb.2.2.2.1 h1 hi hs
  have hok := sOK_0w (he.2.2.2.2.2 j hj)
  have hM := w2_M (OB_w hb)
  have hp := OB_sP hb h1 hi hs hj
  have hsH : sH (tb t) i j < 2 ^ 32 := le_lt (OB_lt hb) _ 4
  have hsa := q_siteAddress (F := F) hm hF hf0 hN0 ht h1 hi hs hj hsta h1o
  have hRW : RWd σ T tO tn tb dr xs := ⟨hW.1, hd, hr⟩
  unfold f_M_siteValue
  rw [e_o hm, bs, O_obj hm hb, xb_mk, e_o hm, bs, O_site hm (by omega) hb hi, xb_mk, e_o hm, bs, nI_add, O_sH hm (by omega) hb hp, xb_mk, e_o hm, bs, nI_add, O_sY hm (by omega) hb hp, xb_mk, e_o hm, bs, nI_add, O_sD hm (by omega) hb hp, xb_mk, e_o hm, bs, q_isShort hm (by omega) n1 hRW ht h1 hi hs hj, xb_mk, lN_i]
  have h3 := skY_3 (tb := tb) (dr := dr) (xs := xs) (t := t) (i := i) (j := j)
  by_cases c : 0 < skY tb dr xs t i j
  · have eV : siV B (pf0 B tO tb ll) tO tb dr xs (sta tb dr on R) (slL T tb dr xs (sta tb dr on R)) (syA tb xs (ownV B (pf0 B tO tb ll) tO tb dr (sta tb dr on R) pp ad) NA) (siA tb ad t i j) sp tp pp t i j = syA tb xs (ownV B (pf0 B tO tb ll) tO tb dr (sta tb dr on R) pp ad) NA t (sY (tb t) i j) + lN (sD (tb t) i j) - siA tb ad t i j + (if skY tb dr xs t i j = 3 then lN 1 else lN 0) := by unfold siV; rw [if_pos c]
    rw [eV, decide_eq_true c, if_neg (show ¬ bI true = 0 by decide), e_o hm, bs, q_symbolAddress hm hF hf0 hN0 ht hok.2.1, xb_mk, e_o hm, bs, hsa, xb_mk, e_o hm, bs, q_shortKind hm (by omega) n1 hRW ht h1 hi hs hj, xb_mk]
    unfold f_M_siteValue_95
    by_cases c3 : skY tb dr xs t i j = 3
    · rw [if_pos (by rw [c3]), if_pos c3]
    · rw [if_neg (fun q => c3 ((nI_eq (by omega) (by decide)).mp q)), if_neg c3]
  · have hsk : skY tb dr xs t i j = 0 := by omega
    have e167 := q_sV_167 (F := F) hm hF hf0 hN0 ht h1 hi hs hj hsta h1o hsk
    rw [decide_eq_false c, if_pos (show bI false = 0 from rfl)]
    have fin : ¬ ((sH (tb t) i j = 1 ∨ sH (tb t) i j = 10 ∨ sH (tb t) i j = 11) ∧ ofS tb dr (sta tb dr on R) t (sY (tb t) i j) = true) → f_M_siteValue_167 F m (nI t) (nI i) (nI j) (lN (sH (tb t) i j)) (nI (sY (tb t) i j)) (lN (sD (tb t) i j)) (mh m h σ) = some (siV B (pf0 B tO tb ll) tO tb dr xs (sta tb dr on R) (slL T tb dr xs (sta tb dr on R)) (syA tb xs (ownV B (pf0 B tO tb ll) tO tb dr (sta tb dr on R) pp ad) NA) (siA tb ad t i j) sp tp pp t i j, mh m h σ) := fun q => by
      rw [e167]
      unfold siV
      rw [if_neg c, if_neg q]
    have e122 : (sH (tb t) i j = 1 ∨ sH (tb t) i j = 10 ∨ sH (tb t) i j = 11) → f_M_siteValue_122 F m (nI t) (nI i) (nI j) (lN (sH (tb t) i j)) (nI (sY (tb t) i j)) (lN (sD (tb t) i j)) (mh m h σ) = some (siV B (pf0 B tO tb ll) tO tb dr xs (sta tb dr on R) (slL T tb dr xs (sta tb dr on R)) (syA tb xs (ownV B (pf0 B tO tb ll) tO tb dr (sta tb dr on R) pp ad) NA) (siA tb ad t i j) sp tp pp t i j, mh m h σ) := fun cw => by
      unfold f_M_siteValue_122
      rw [e_o hm, bs, q_isOfStrings hm hF hf0 ht hok.2.1, xb_mk]
      cases eo : ofS tb dr (sta tb dr on R) t (sY (tb t) i j) with
      | false =>
        rw [if_pos (show bI false = 0 from rfl)]
        exact fin (fun q => by rw [eo] at q; exact nomatch q.2)
      | true =>
        have eV : siV B (pf0 B tO tb ll) tO tb dr xs (sta tb dr on R) (slL T tb dr xs (sta tb dr on R)) (syA tb xs (ownV B (pf0 B tO tb ll) tO tb dr (sta tb dr on R) pp ad) NA) (siA tb ad t i j) sp tp pp t i j = lN (pp + baN B (pf0 B tO tb ll) (tO t + oP (tb t) (yW (tb t) (sY (tb t) i j))) (oZ (tb t) (yW (tb t) (sY (tb t) i j))) ((yV (tb t) (sY (tb t) i j) + sD (tb t) i j) % 2 ^ 64)) := by unfold siV; rw [if_neg c, if_pos ⟨cw, eo⟩]
        unfold ofS at eo
        rw [Bool.and_eq_true, Bool.and_eq_true, Bool.and_eq_true] at eo
        obtain ⟨o1, o2, o3, o4⟩ := eo
        unfold isN at o2
        rw [Bool.and_eq_true] at o2
        have o2 := of_decide_eq_true o2.1
        have hwy : wNo dr t (tb t) (sY (tb t) i j) = yW (tb t) (sY (tb t) i j) := by
          have : wNo dr t (tb t) (sY (tb t) i j) = 0 ∨ wNo dr t (tb t) (sY (tb t) i j) = yW (tb t) (sY (tb t) i j) := by unfold wNo; split; exact Or.inl rfl; exact Or.inr rfl
          rcases this with q | q
          · rw [q] at o2; omega
          · exact q
        rw [hwy] at o2 o3 o4
        have hin := n5 t _ ht o2.1 o2.2 o3
        have hS24 := (OB_w hb).1.2.1.2
        rw [eV, if_neg (show ¬ bI true = 0 by decide), e_o hm, bs, O_obj hm hb, xb_mk, e_o hm, bs, O_obj hm hb, xb_mk, e_o hm, bs, O_where hm (by omega) hb hok.2.1, xb_mk, e_o hm, bs, O_obj hm hb, xb_mk, e_o hm, bs, O_value hm (by omega) hb hok.2.1, xb_mk, e_o hm, bs, lN_add, lN_mod, q_byteAddress hm hF hW n2 n3 hpo n4 hin (by omega) o4 (Nat.mod_lt _ (by decide)) h90, xb_mk]
    by_cases d1 : sH (tb t) i j = 1
    · rw [if_pos (show lN (sH (tb t) i j) = lN 1 by rw [d1])]
      exact e122 (Or.inl d1)
    · rw [if_neg (fun q => d1 ((lEQ (by omega) (by decide)).mp q))]
      by_cases d2 : sH (tb t) i j = 10
      · rw [if_pos (show lN (sH (tb t) i j) = (10 : Int64) by rw [d2]; rfl)]
        exact e122 (Or.inr (Or.inl d2))
      · rw [if_neg (show ¬ lN (sH (tb t) i j) = (10 : Int64) from fun q => d2 ((lEQ (b := 10) (by omega) (by decide)).mp q))]
        by_cases d3 : sH (tb t) i j = 11
        · rw [if_pos (show lN (sH (tb t) i j) = (11 : Int64) by rw [d3]; rfl)]
          exact e122 (Or.inr (Or.inr d3))
        · rw [if_neg (show ¬ lN (sH (tb t) i j) = (11 : Int64) from fun q => d3 ((lEQ (b := 11) (by omega) (by decide)).mp q))]
          exact fin (fun q => q.1.elim d1 (fun q => q.elim d2 d3))
end MSX
end
section
/-! sites of the reference: does a site run over -/
def rov (how : Nat) (v : Int64) : Bool := if how < 2 ∨ how = 18 then false else if how = 10 then !decide (((v.toUInt64 >>> ((nI 32).toInt64.toUInt64 &&& Int64.toUInt64 63)).toInt64) = (lN 0)) else decide (v < (-2147483648 : Int64)) || !decide (v ≤ (2147483647 : Int64))
theorem q_runsOver {F m how : Nat} {v : Int64} {h : px_H} (hh : how < 2 ^ 32) : f_M_runsOver F m (lN how) v h = some (bI (rov how v), h) := by
  unfold f_M_runsOver f_M_runsOver_16 f_M_runsOver_59 f_M_runsOver_64 rov
  by_cases c1 : how < 2
  · rw [if_pos (show lN how < (2 : Int64) from (pk_lLT (b := 2) (by omega) (by decide)).mpr c1), if_pos (Or.inl c1)]; rfl
  · rw [if_neg (show ¬ lN how < (2 : Int64) from fun q => c1 ((pk_lLT (b := 2) (by omega) (by decide)).mp q))]
    by_cases c2 : how = 18
    · rw [if_pos (show lN how = (18 : Int64) by rw [c2]; rfl), if_pos (Or.inr c2)]; rfl
    · rw [if_neg (show ¬ lN how = (18 : Int64) from fun q => c2 ((lEQ (b := 18) (by omega) (by decide)).mp q)), if_neg (show ¬ (how < 2 ∨ how = 18) from fun q => q.elim c1 c2)]
      by_cases c3 : how = 10
      · rw [if_pos (show lN how = (10 : Int64) by rw [c3]; rfl), if_pos c3]
        by_cases c4 : ((v.toUInt64 >>> ((nI 32).toInt64.toUInt64 &&& Int64.toUInt64 63)).toInt64) = (lN 0)
        · rw [if_pos c4, decide_eq_true c4, xz_0] <;> rfl
        · rw [if_neg c4, decide_eq_false c4, xz_1] <;> rfl
      · rw [if_neg (show ¬ lN how = (10 : Int64) from fun q => c3 ((lEQ (b := 10) (by omega) (by decide)).mp q)), if_neg c3]
        by_cases c4 : v < (-2147483648 : Int64)
        · rw [if_pos c4, decide_eq_true c4, xz_1] <;> rfl
        · rw [if_neg c4, decide_eq_false c4]
          by_cases c5 : v ≤ (2147483647 : Int64)
          · rw [if_pos c5, decide_eq_true c5, xz_0] <;> rfl
          · rw [if_neg c5, decide_eq_false c5, xz_1] <;> rfl
theorem oI_1 {b : Nat → Nat} {n i : Nat} (h : eObj b n = 0) (h1 : 1 ≤ i) (hi : i < oS b) (hs : isS b i = true) : 1 ≤ oI b i := by
  have h0 := eObj_T0 h
  have hk := (eSit_0 h h1 hi hs).2.1
  by_cases c : oI b i = 0
  · exfalso
    rw [c] at hk
    unfold oK at hk
    have := of_decide_eq_true hk
    omega
  · omega
section MSQ
variable {F m T t i : Nat} {h : px_H} {B : Nat → Nat} {tb : Nat → Nat → Nat} {tO tn tq : Nat → Nat} {dr : Nat → Bool} {xs : px_NL} {ll sl : List Nat} {on : Bool} {R : Nat → Bool} {NA : Nat → Int64} {ad : Nat → Nat} {sp tp pp : Nat} {k2 : Nat → Int32 → Int32 → px_H → Option (Unit × px_H)} {k19 : Nat → Int32 → Int32 → Int32 → Int32 → px_H → Option (Unit × px_H)}
theorem RFn_FR {σ σ' : px_S} {I J A Bs : List Nat} (hf : RFn σ T tO tn tq tb dr xs on R ll B sl NA ad sp tp pp) (f : FR I J A Bs σ σ') (hI : ∀ k, k ∈ [14, 20, 50, 68, 74, 88, 89] → k ∉ I) (hJ : ∀ k, k ∈ [79, 87, 90] → k ∉ J) (hA : ∀ k, k ∈ [6, 9, 17, 21, 22, 23, 24, 25, 26, 27, 28, 51, 52, 53, 54, 55, 56, 65, 66, 73, 75, 76, 77, 78, 91, 92, 93, 94, 95] → k ∉ A) (hB : ∀ k, k ∈ [29, 30, 58] → k ∉ Bs) : RFn σ' T tO tn tq tb dr xs on R ll B sl NA ad sp tp pp := by
  obtain ⟨⟨hW, hpo⟩, ⟨hd, hs, hr⟩, hsl, hna, had, h79, h87, h90, h14⟩ := hf
  refine ⟨⟨RWp_FR hW f (hI 50 (by decide)) (fun k hk => hA k (by revert k; decide)), RPo_FR hpo f ⟨hI 88 (by decide), hI 89 (by decide)⟩ (fun k hk => hA k (by revert k; decide))⟩, ⟨fun j hj => by rw [f.2.2.1 65 (hA 65 (by decide))]; exact hd j hj, RSt_FR hs f (hI 68 (by decide)) (hA 66 (by decide)), RL_FR hr f (hI 20 (by decide)) (fun k hk => hA k (by revert k; decide)) (hB 30 (by decide))⟩, ⟨(f.1 74 (hI 74 (by decide))).trans hsl.1, fun p z hz => ?_⟩, fun j hj => by rw [f.2.2.2 29 (hB 29 (by decide))]; exact hna j hj, fun x hx => by rw [f.2.2.2 58 (hB 58 (by decide))]; exact had x hx, (f.2.1 79 (hJ 79 (by decide))).trans h79, (f.2.1 87 (hJ 87 (by decide))).trans h87, (f.2.1 90 (hJ 90 (by decide))).trans h90, (f.1 14 (hI 14 (by decide))).trans h14⟩
  unfold RSr
  rw [f.2.2.1 78 (hA 78 (by decide)), f.2.2.1 75 (hA 75 (by decide)), f.2.2.1 76 (hA 76 (by decide)), f.2.2.1 77 (hA 77 (by decide))]
  exact hsl.2 p z hz
/-- site j of section i of object t runs over -/
def ovJ (SV : Nat → Nat → Nat → Int64) (tb : Nat → Nat → Nat) (t i j : Nat) : Bool := decide (sH (tb t) i j ≠ 0) && rov (sH (tb t) i j) (SV t i j)
def ovI (SV : Nat → Nat → Nat → Int64) (tb : Nat → Nat → Nat) (sy : Nat → Nat → Bool) (t i : Nat) : Bool := (isS (tb t) i && sy t (oI (tb t) i)) && ex1 (ovJ SV tb t i) 0 (sN (tb t) i)
def ovT (SV : Nat → Nat → Nat → Int64) (tb : Nat → Nat → Nat) (sy : Nat → Nat → Bool) (t : Nat) : Bool := ex1 (ovI SV tb sy t) 1 (oS (tb t) - 1)
/-- so far -/
def STo (σ : px_S) (b : Bool) (σc : px_S) : Prop := (b = false → σc = σ) ∧ (b = true → gI σc 13 = nI 4 ∧ FR [13] [16] [] [] σ σc)
theorem STo_FR {σ σc : px_S} {b : Bool} (hs : STo σ b σc) : FR [13] [16] [] [] σ σc := by
  cases b with
  | false => rw [hs.1 rfl]; exact FR_refl σ
  | true => exact (hs.2 rfl).2
theorem q_st_61 {σ : px_S} {SV : Nat → Nat → Nat → Int64} (hm : m ≤ h.length) (hF : 65540 < F) (hf : RFn σ T tO tn tq tb dr xs on R ll B (slL T tb dr xs (sta tb dr on R)) NA ad sp tp pp) (hN : FNo T tO tb dr xs (sta tb dr on R) ll B (slL T tb dr xs (sta tb dr on R))) (h13 : gI σ 13 = nI 0) (hSV : SV = fun t i j => siV B (pf0 B tO tb ll) tO tb dr xs (sta tb dr on R) (slL T tb dr xs (sta tb dr on R)) (syA tb xs (ownV B (pf0 B tO tb ll) tO tb dr (sta tb dr on R) pp ad) NA) (siA tb ad t i j) sp tp pp t i j) (ht : t < T) (h1 : 1 ≤ i) (hi : i < oS (tb t)) (hs : isS (tb t) i = true) (hsta : sta tb dr on R t (oI (tb t) i) = true) : ∀ (c j g : Nat) (σc : px_S) (b : Bool), j + c = sN (tb t) i → c < g → STo σ b σc → ∃ σd, f_M_sites_61 F k2 k19 g m (nI 0) (nI t) (nI (tO t)) (nI i) (nI j) (mh m h σc) = k19 m (nI 0) (nI t) (nI (tO t)) (nI (i + 1)) (mh m h σd) ∧ STo σ (b || ex1 (ovJ SV tb t i) j c) σd := by
  intro c
  induction c with
  | zero =>
    intro j g σc b hj hg hS
    obtain ⟨g, rfl⟩ : ∃ x, g = x + 1 := ⟨g - 1, by omega⟩
    have hfc := RFn_FR hf (STo_FR hS) (by decide) (by decide) (by decide) (by decide)
    have hb := hfc.1.1.1 t ht
    have hz := (eSit_0 hb.2.2.2.1 h1 hi hs).2.2.2.1
    have hn := hb.2.2.1
    have hsz : sN (tb t) i < 2 ^ 30 := by unfold sN; omega
    unfold f_M_sites_61 f_M_sites_96
    rw [e_o hm, bs, O_sN hm (by omega) hb h1 hi hs, xb_mk, if_pos (nI_le (by omega) (by omega)), nI_add]
    exact ⟨σc, rfl, by show STo σ (b || false) σc; rw [Bool.or_false]; exact hS⟩
  | succ c ih =>
    intro j g σc b hj hg hS
    obtain ⟨g, rfl⟩ : ∃ x, g = x + 1 := ⟨g - 1, by omega⟩
    have hfc := RFn_FR hf (STo_FR hS) (by decide) (by decide) (by decide) (by decide)
    have hb := hfc.1.1.1 t ht
    have he := eSit_0 hb.2.2.2.1 h1 hi hs
    have hz := he.2.2.2.1
    have hn := hb.2.2.1
    have hsz : sN (tb t) i < 2 ^ 30 := by unfold sN; omega
    have hjN : j < sN (tb t) i := by omega
    have hp := OB_sP hb h1 hi hs hjN
    have hsH : sH (tb t) i j < 2 ^ 32 := le_lt (OB_lt hb) _ 4
    have h1o := oI_1 hb.2.2.2.1 h1 hi hs
    unfold f_M_sites_61 f_M_sites_96
    rw [e_o hm, bs, O_sN hm (by omega) hb h1 hi hs, xb_mk, if_neg (nI_ge (by omega) (by omega)), Mg13 hm, bs, nI_add, nI_add, ex1_s]
    cases eb : b with
    | true =>
      rw [eb] at hS
      rw [(hS.2 rfl).1, if_neg (show ¬ nI 4 = 0 by decide)]
      exact ⟨σc, rfl, hS⟩
    | false =>
      rw [eb] at hS
      have ec := hS.1 rfl
      rw [ec] at hfc hb
      rw [ec, h13, if_pos (show nI 0 = 0 from rfl), e_o hm, bs]
      have e1 : ∃ σd, f_M_one F m (nI t) (nI i) (nI j) (nI 0) (mh m h σ) = some ((), mh m h σd) ∧ STo σ (ovJ SV tb t i j) σd := by
        unfold f_M_one f_M_one_138
        rw [e_o hm, bs, O_obj hm hb, xb_mk, e_o hm, bs, O_site hm (by omega) hb hi, xb_mk, e_o hm, bs, nI_add, O_sH hm (by omega) hb hp, xb_mk]
        by_cases c0 : sH (tb t) i j = 0
        · rw [if_pos (by rw [c0])]
          exact ⟨σ, rfl, fun _ => rfl, fun q => by unfold ovJ at q; rw [decide_eq_false (fun z => z c0)] at q; exact nomatch q⟩
        · have eov : ovJ SV tb t i j = rov (sH (tb t) i j) (SV t i j) := by unfold ovJ; rw [decide_eq_true c0, Bool.true_and]
          rw [eov, if_neg (fun q => c0 ((lEQ (by omega) (by decide)).mp q)), e_o hm, bs, q_siteValue hm hF hfc hN ht h1 hi hs hjN hsta h1o, xb_mk, if_pos (show nI 0 = 0 from rfl), e_o hm, bs, q_runsOver hsH, xb_mk]
          rw [show siV B (pf0 B tO tb ll) tO tb dr xs (sta tb dr on R) (slL T tb dr xs (sta tb dr on R)) (syA tb xs (ownV B (pf0 B tO tb ll) tO tb dr (sta tb dr on R) pp ad) NA) (siA tb ad t i j) sp tp pp t i j = SV t i j by rw [hSV]]
          cases er : rov (sH (tb t) i j) (SV t i j) with
          | false =>
            rw [if_pos (show bI false = 0 from rfl)]
            exact ⟨σ, rfl, fun _ => rfl, fun q => nomatch q⟩
          | true =>
            have f1 := FR_I σ 13 (nI 4)
            have hf1 := RFn_FR hfc f1 (by decide) (by decide) (by decide) (by decide)
            rw [if_neg (show ¬ bI true = 0 by decide), Mp13 hm, bs, e_o hm, bs, q_siteAddress hm hF hf1 hN ht h1 hi hs hjN hsta h1o, xb_mk, Mp16 hm, bs]
            exact ⟨_, rfl, fun q => (nomatch q), fun _ => ⟨by rw [gI_sJ, gI_sI, if_pos rfl], FR_trans (FR_mono f1 (by decide) (by decide) (by decide) (by decide)) (FR_mono (FR_J _ 16 _) (by decide) (by decide) (by decide) (by decide))⟩⟩
      obtain ⟨σd, d1, d2⟩ := e1
      rw [d1, xb_mk, Bool.false_or]
      obtain ⟨σe, g1, g2⟩ := ih (j + 1) g σd (ovJ SV tb t i j) (by omega) (by omega) d2
      exact ⟨σe, g1, g2⟩
theorem q_st_19 {σ : px_S} {SV : Nat → Nat → Nat → Int64} (hm : m ≤ h.length) (hF : 65540 < F) (hf : RFn σ T tO tn tq tb dr xs on R ll B (slL T tb dr xs (sta tb dr on R)) NA ad sp tp pp) (hN : FNo T tO tb dr xs (sta tb dr on R) ll B (slL T tb dr xs (sta tb dr on R))) (h13 : gI σ 13 = nI 0) (hSV : SV = fun t i j => siV B (pf0 B tO tb ll) tO tb dr xs (sta tb dr on R) (slL T tb dr xs (sta tb dr on R)) (syA tb xs (ownV B (pf0 B tO tb ll) tO tb dr (sta tb dr on R) pp ad) NA) (siA tb ad t i j) sp tp pp t i j) (ht : t < T) : ∀ (c i g : Nat) (σc : px_S) (b : Bool), 1 ≤ i → i + c = oS (tb t) → c < g → STo σ b σc → ∃ σd, f_M_sites_19 F k2 g m (nI 0) (nI t) (nI (tO t)) (nI i) (mh m h σc) = k2 m (nI 0) (nI (t + 1)) (mh m h σd) ∧ STo σ (b || ex1 (ovI SV tb (sta tb dr on R) t) i c) σd := by
  intro c
  induction c with
  | zero =>
    intro i g σc b h1 hi hg hS
    obtain ⟨g, rfl⟩ : ∃ x, g = x + 1 := ⟨g - 1, by omega⟩
    have hfc := RFn_FR hf (STo_FR hS) (by decide) (by decide) (by decide) (by decide)
    have hb := hfc.1.1.1 t ht
    have hs24 := (OB_w hb).1.2.1.2
    unfold f_M_sites_19 f_M_sites_102
    rw [e_o hm, bs, O_sec hm (by omega) hb, xb_mk, if_pos (nI_le (by omega) (by omega)), nI_add]
    exact ⟨σc, rfl, by show STo σ (b || false) σc; rw [Bool.or_false]; exact hS⟩
  | succ c ih =>
    intro i g σc b h1 hi hg hS
    obtain ⟨g, rfl⟩ : ∃ x, g = x + 1 := ⟨g - 1, by omega⟩
    have hfc := RFn_FR hf (STo_FR hS) (by decide) (by decide) (by decide) (by decide)
    have hb := hfc.1.1.1 t ht
    have hs24 := (OB_w hb).1.2.1.2
    have hiS : i < oS (tb t) := by omega
    have step : ∀ σd b', b' = (b || ovI SV tb (sta tb dr on R) t i) → STo σ b' σd → ∃ σe, f_M_sites_19 F k2 g m (nI 0) (nI t) (nI (tO t)) (nI (i + 1)) (mh m h σd) = k2 m (nI 0) (nI (t + 1)) (mh m h σe) ∧ STo σ (b || (ovI SV tb (sta tb dr on R) t i || ex1 (ovI SV tb (sta tb dr on R) t) (i + 1) c)) σe := fun σd b' hb' hS' => by
      obtain ⟨σe, g1, g2⟩ := ih (i + 1) g σd b' (by omega) (by omega) (by omega) hS'
      rw [hb', Bool.or_assoc] at g2
      exact ⟨σe, g1, g2⟩
    unfold f_M_sites_19 f_M_sites_96
    rw [e_o hm, bs, O_sec hm (by omega) hb, xb_mk, if_neg (nI_ge (by omega) (by omega)), e_o hm, bs, O_isS hm (by omega) hb hiS, xb_mk, nI_add, ex1_s]
    cases es : isS (tb t) i with
    | false =>
      rw [if_pos (show bI false = 0 from rfl)]
      exact step σc b (by unfold ovI; rw [es, Bool.false_and, Bool.false_and, Bool.or_false]) hS
    | true =>
      have he := eSit_0 hb.2.2.2.1 h1 hiS es
      rw [if_neg (show ¬ bI true = 0 by decide), e_o hm, bs, O_info hm (by omega) hb hiS, xb_mk, lN_i, e_o hm, bs, q_stays hm (by omega) hb hfc.2.1.1 hfc.2.1.2.1 he.1, xb_mk]
      cases er : sta tb dr on R t (oI (tb t) i) with
      | false =>
        rw [if_pos (show bI false = 0 from rfl)]
        exact step σc b (by unfold ovI; rw [er, Bool.and_false, Bool.false_and, Bool.or_false]) hS
      | true =>
        rw [if_neg (show ¬ bI true = 0 by decide)]
        have hz := he.2.2.2.1
        have hn := hb.2.2.1
        have hsz : sN (tb t) i < 65536 := by unfold sN; omega
        obtain ⟨σd, d1, d2⟩ := q_st_61 (F := F) (k2 := k2) (k19 := f_M_sites_19 F k2 g) (SV := SV) hm hF hf hN h13 hSV ht h1 hiS es er (sN (tb t) i) 0 F σc b (by omega) (by omega) hS
        rw [d1]
        exact step σd _ (by unfold ovI; rw [es, er, Bool.true_and, Bool.true_and]) d2
theorem q_st_2 {σ : px_S} {SV : Nat → Nat → Nat → Int64} (hm : m ≤ h.length) (hF : 65540 < F) (hf : RFn σ T tO tn tq tb dr xs on R ll B (slL T tb dr xs (sta tb dr on R)) NA ad sp tp pp) (hN : FNo T tO tb dr xs (sta tb dr on R) ll B (slL T tb dr xs (sta tb dr on R))) (h13 : gI σ 13 = nI 0) (hSV : SV = fun t i j => siV B (pf0 B tO tb ll) tO tb dr xs (sta tb dr on R) (slL T tb dr xs (sta tb dr on R)) (syA tb xs (ownV B (pf0 B tO tb ll) tO tb dr (sta tb dr on R) pp ad) NA) (siA tb ad t i j) sp tp pp t i j) : ∀ (c t g : Nat) (σc : px_S) (b : Bool), t + c = T → c < g → STo σ b σc → ∃ σd, f_M_sites_2 F g m (nI 0) (nI t) (mh m h σc) = some ((), mh m h σd) ∧ STo σ (b || ex1 (ovT SV tb (sta tb dr on R)) t c) σd := by
  have hT := hN.1.1
  intro c
  induction c with
  | zero =>
    intro t g σc b ht hg hS
    obtain ⟨g, rfl⟩ : ∃ x, g = x + 1 := ⟨g - 1, by omega⟩
    have hfc := RFn_FR hf (STo_FR hS) (by decide) (by decide) (by decide) (by decide)
    unfold f_M_sites_2 f_M_sites_108
    rw [Mg14 hm, bs, hfc.2.2.2.2.2.2.2.2, if_pos (nI_le (by omega) (by omega))]
    exact ⟨σc, rfl, by show STo σ (b || false) σc; rw [Bool.or_false]; exact hS⟩
  | succ c ih =>
    intro t g σc b ht hg hS
    obtain ⟨g, rfl⟩ : ∃ x, g = x + 1 := ⟨g - 1, by omega⟩
    have hfc := RFn_FR hf (STo_FR hS) (by decide) (by decide) (by decide) (by decide)
    have hb := hfc.1.1.1 t (by omega)
    have hs24 := (OB_w hb).1.2.1
    obtain ⟨σd, d1, d2⟩ := q_st_19 (F := F) (k2 := f_M_sites_2 F g) (SV := SV) (t := t) hm hF hf hN h13 hSV (by omega) (oS (tb t) - 1) 1 F σc b (by omega) (by omega) (by omega) hS
    obtain ⟨σe, g1, g2⟩ := ih (t + 1) g σd _ (by omega) (by omega) d2
    unfold f_M_sites_2
    rw [Mg14 hm, bs, hfc.2.2.2.2.2.2.2.2, if_neg (nI_ge (by omega) (by omega)), e_o hm, bs, O_obj hm hb, xb_mk, d1, g1, ex1_s]
    rw [Bool.or_assoc] at g2
    exact ⟨σe, rfl, g2⟩
theorem q_sites {σ : px_S} {SV : Nat → Nat → Nat → Int64} (hm : m ≤ h.length) (hF : 65540 < F) (hf : RFn σ T tO tn tq tb dr xs on R ll B (slL T tb dr xs (sta tb dr on R)) NA ad sp tp pp) (hN : FNo T tO tb dr xs (sta tb dr on R) ll B (slL T tb dr xs (sta tb dr on R))) (h13 : gI σ 13 = nI 0) (hSV : SV = fun t i j => siV B (pf0 B tO tb ll) tO tb dr xs (sta tb dr on R) (slL T tb dr xs (sta tb dr on R)) (syA tb xs (ownV B (pf0 B tO tb ll) tO tb dr (sta tb dr on R) pp ad) NA) (siA tb ad t i j) sp tp pp t i j) : ∃ σd, f_M_sites F m (nI 0) (mh m h σ) = some ((), mh m h σd) ∧ STo σ (ex1 (ovT SV tb (sta tb dr on R)) 0 T) σd := by
  have hT := hN.1.1
  have := q_st_2 (F := F) (h := h) (SV := SV) hm hF hf hN h13 hSV T 0 F σ false (by omega) (by omega) ⟨fun _ => rfl, fun q => nomatch q⟩
  rw [Bool.false_or] at this
  exact this
end MSQ
end
section
/-! put, fillSite of the reference; a step that writes OUT alone -/
def WRo (σ σ' : px_S) : Prop := FR [] [] [3] [] σ σ' ∧ ∀ k, isB (gA σ' 3 k)
theorem WRo_tr {σ σ1 σ2 : px_S} (h : WRo σ σ1) (g : WRo σ1 σ2) : WRo σ σ2 := ⟨FR_trans h.1 g.1, g.2⟩
theorem WRo_set {σ : px_S} {i : Nat} {v : Int32} (h3 : ∀ k, isB (gA σ 3 k)) (hv : isB v) : WRo σ (sA σ 3 (upd (gA σ 3) i v)) := ⟨FR_A σ 3 _, fun q => by
  show isB (upd (gA σ 3) i v q)
  by_cases c : q = i
  · rw [c, upd_eq]; exact hv
  · rw [upd_ne c]; exact h3 q⟩
section MPU
variable {F m : Nat} {h : px_H}
theorem q_put_3 {at0 n : Nat} {v : Int64} (hm : m ≤ h.length) (ha : at0 + n ≤ 65536) : ∀ (c k g : Nat) (σ : px_S), k + c = n → c < g → (∀ k, isB (gA σ 3 k)) → ∃ σ', f_M_put_3 F g m (nI at0) v (nI n) (nI k) (mh m h σ) = some ((), mh m h σ') ∧ WRo σ σ' := by
  intro c
  induction c with
  | zero =>
    intro k g σ hk hg h3
    obtain ⟨g, rfl⟩ : ∃ x, g = x + 1 := ⟨g - 1, by omega⟩
    unfold f_M_put_3 f_M_put_34
    rw [if_pos (nI_le (by omega) (by omega))]
    exact ⟨σ, rfl, FR_refl σ, h3⟩
  | succ c ih =>
    intro k g σ hk hg h3
    obtain ⟨g, rfl⟩ : ∃ x, g = x + 1 := ⟨g - 1, by omega⟩
    unfold f_M_put_3
    rw [if_neg (nI_ge (by omega) (by omega)), Mr3 hm, bs, nI_add, Ms3 hm (by omega), bs, nI_add]
    have w := WRo_set (i := at0 + k) h3 (isB_8 ((v >>> ((nI 8 * nI k).toInt64 &&& 63)).toInt32.toInt8.toInt32))
    obtain ⟨σ2, j1, j2⟩ := ih (k + 1) g _ (by omega) (by omega) w.2
    exact ⟨σ2, j1, WRo_tr w j2⟩
theorem q_put {σ : px_S} {at0 n : Nat} {v : Int64} (hm : m ≤ h.length) (hF : 65536 < F) (ha : at0 + n ≤ 65536) (h3 : ∀ k, isB (gA σ 3 k)) : ∃ σ', f_M_put F m (nI at0) v (nI n) (mh m h σ) = some ((), mh m h σ') ∧ WRo σ σ' :=
  q_put_3 hm ha n 0 F σ (by omega) (by omega) h3
theorem q_fillSite {σ : px_S} {at0 n sk : Nat} {v : Int64} (hm : m ≤ h.length) (hF : 65536 < F) (ha : at0 + n ≤ 65536) (hsk : sk ≤ 3) (h2 : 0 < sk → 2 ≤ at0 ∧ at0 + 4 ≤ 65536) (h3 : ∀ k, isB (gA σ 3 k)) : ∃ σ', f_M_fillSite F m (nI at0) v (nI n) (nI sk) (mh m h σ) = some ((), mh m h σ') ∧ WRo σ σ' := by
  have e14 : ∀ a1, a1 + n ≤ 65536 → ∃ σ', f_M_fillSite_14 F m (nI at0) v (nI n) (nI sk) m (nI a1) (mh m h σ) = some ((), mh m h σ') ∧ WRo σ σ' := by
    intro a1 ha1
    obtain ⟨σ1, p1, p2⟩ := q_put (F := F) (h := h) (v := v) hm hF ha1 h3
    have e53 : ∀ σ2, (∀ k, isB (gA σ2 3 k)) → ∃ σ', f_M_fillSite_53 F m (nI at0) (nI sk) (mh m h σ2) = some ((), mh m h σ') ∧ WRo σ2 σ' := by
      intro σ2 h32
      unfold f_M_fillSite_53
      by_cases c3 : sk = 3
      · have := h2 (by omega)
        rw [if_pos (by rw [c3]), Mr3 hm, bs, pk_sub (by omega), Ms3 hm (by omega), bs]
        have w1 := WRo_set (i := at0 - 2) h32 (isB_8 ((Int8.ofInt (-23)).toInt32))
        rw [Mr3 hm, bs, nI_add, Ms3 hm (by omega), bs]
        have w2 := WRo_set (i := at0 + 3) w1.2 (isB_8 ((Int8.ofInt (-112)).toInt32))
        exact ⟨_, rfl, WRo_tr w1 w2⟩
      · rw [if_neg (fun q => c3 ((nI_eq (by omega) (by decide)).mp q))]
        exact ⟨σ2, rfl, FR_refl σ2, h32⟩
    have e36 : ∀ σ2, (∀ k, isB (gA σ2 3 k)) → ∃ σ', f_M_fillSite_36 F m (nI at0) (nI sk) (mh m h σ2) = some ((), mh m h σ') ∧ WRo σ2 σ' := by
      intro σ2 h32
      unfold f_M_fillSite_36
      by_cases c2 : sk = 2
      · have := h2 (by omega)
        obtain ⟨σ3, q1, q2⟩ := q_put (F := F) (h := h) (σ := σ2) (at0 := at0 - 2) (n := 2) (v := (59495 : Int64)) hm hF (by omega) h32
        obtain ⟨σ4, r1, r2⟩ := e53 σ3 q2.2
        rw [if_pos (by rw [c2]), e_o hm, bs, pk_sub (by omega), q1, xb_mk]
        exact ⟨σ4, r1, WRo_tr q2 r2⟩
      · rw [if_neg (fun q => c2 ((nI_eq (by omega) (by decide)).mp q))]
        exact e53 σ2 h32
    unfold f_M_fillSite_14
    rw [e_o hm, bs, p1, xb_mk]
    by_cases c1 : sk = 1
    · have := h2 (by omega)
      have w1 := WRo_set (σ := σ1) (i := at0 - 2) p2.2 (isB_8 ((Int8.ofInt (-115)).toInt32))
      obtain ⟨σ4, r1, r2⟩ := e36 _ w1.2
      rw [if_pos (by rw [c1]), Mr3 hm, bs, pk_sub (by omega), Ms3 hm (by omega), bs]
      exact ⟨σ4, r1, WRo_tr p2 (WRo_tr w1 r2)⟩
    · obtain ⟨σ4, r1, r2⟩ := e36 σ1 p2.2
      rw [if_neg (fun q => c1 ((nI_eq (by omega) (by decide)).mp q))]
      exact ⟨σ4, r1, WRo_tr p2 r2⟩
  unfold f_M_fillSite
  by_cases c3 : sk = 3
  · have := h2 (by omega)
    rw [if_pos (by rw [c3]), pk_sub (by omega)]
    exact e14 (at0 - 1) (by omega)
  · rw [if_neg (fun q => c3 ((nI_eq (by omega) (by decide)).mp q))]
    exact e14 at0 ha
end MPU
end
section
/-! sites of the reference: they are filled -/
def RSp (σ : px_S) (fpS bgS : Nat → Nat) : Prop := ∀ s, s < 3 → gB σ 60 s = lN (fpS s) ∧ gB σ 61 s = lN (bgS s)
/-- the sections with bytes lie within the file -/
def hLo (tb : Nat → Nat → Nat) (ll : List Nat) (ad fpS bgS : Nat → Nat) : Prop := ∀ x, x ∈ ll → sS tb x = false → oG (tb (x / 24)) (x % 24) ≠ 3 → oG (tb (x / 24)) (x % 24) ≠ 5 → 0 < zS tb x → bgS (sgO (oG (tb (x / 24)) (x % 24))) ≤ ad x ∧ fpS (sgO (oG (tb (x / 24)) (x % 24))) + (ad x + zS tb x - bgS (sgO (oG (tb (x / 24)) (x % 24)))) ≤ 65536
theorem oG_8 {b : Nat → Nat} {i : Nat} (h : oT b i ≠ 8) : oG b i ≠ 3 ∧ oG b i ≠ 5 := by
  unfold oG
  rw [if_neg h, if_neg h]
  constructor
  · intro e
    split at e
    · cases e
    · split at e
      · cases e
      · split at e <;> cases e
  · intro e
    split at e
    · cases e
    · split at e
      · cases e
      · split at e <;> cases e
theorem sS_no {b : Nat → Nat} {i : Nat} (hi : i < oS b) (hs : isS b i = true) : oStr b (oI b i) = false := by
  cases e : oStr b (oI b i) with
  | false => rfl
  | true =>
    exfalso
    unfold oStr at e
    rw [Bool.and_eq_true] at e
    have := al_iffw.mp e.2 i (Nat.zero_le _) (by omega)
    rw [hs, decide_eq_true rfl] at this
    cases this
theorem sgO_2 {g : Nat} : sgO g ≤ 2 := by unfold sgO; split <;> omega
section MFI
variable {F m T t i : Nat} {h : px_H} {B : Nat → Nat} {tb : Nat → Nat → Nat} {tO tn tq : Nat → Nat} {dr : Nat → Bool} {xs : px_NL} {ll : List Nat} {on : Bool} {R : Nat → Bool} {NA : Nat → Int64} {ad fpS bgS : Nat → Nat} {sp tp pp : Nat} {k2 : Nat → Int32 → Int32 → px_H → Option (Unit × px_H)} {k19 : Nat → Int32 → Int32 → Int32 → Int32 → px_H → Option (Unit × px_H)}
/-- what the filling reads -/
def RFo (σ : px_S) (T : Nat) (tO tn tq : Nat → Nat) (tb : Nat → Nat → Nat) (dr : Nat → Bool) (xs : px_NL) (on : Bool) (R : Nat → Bool) (ll : List Nat) (B : Nat → Nat) (NA : Nat → Int64) (ad fpS bgS : Nat → Nat) (sp tp pp : Nat) : Prop := RFn σ T tO tn tq tb dr xs on R ll B (slL T tb dr xs (sta tb dr on R)) NA ad sp tp pp ∧ RSp σ fpS bgS ∧ gI σ 13 = nI 0 ∧ ∀ k, isB (gA σ 3 k)
theorem RFo_W {σ σ' : px_S} (hf : RFo σ T tO tn tq tb dr xs on R ll B NA ad fpS bgS sp tp pp) (w : WRo σ σ') : RFo σ' T tO tn tq tb dr xs on R ll B NA ad fpS bgS sp tp pp := ⟨RFn_FR hf.1 w.1 (by decide) (by decide) (by decide) (by decide), fun s hs => by rw [w.1.2.2.2 60 (by decide), w.1.2.2.2 61 (by decide)]; exact hf.2.1 s hs, (w.1.1 13 (by decide)).trans hf.2.2.1, w.2⟩
theorem q_one1 {σ : px_S} {j : Nat} (hm : m ≤ h.length) (hF : 65540 < F) (hf : RFo σ T tO tn tq tb dr xs on R ll B NA ad fpS bgS sp tp pp) (hN : FNo T tO tb dr xs (sta tb dr on R) ll B (slL T tb dr xs (sta tb dr on R))) (hlo : hLo tb ll ad fpS bgS) (had : ∀ x, ad x ≤ 2 ^ 39) (hfp : ∀ s, fpS s ≤ 2 ^ 39) (ht : t < T) (h1 : 1 ≤ i) (hi : i < oS (tb t)) (hs : isS (tb t) i = true) (hj : j < sN (tb t) i) (hsta : sta tb dr on R t (oI (tb t) i) = true) : ∃ σ', f_M_one F m (nI t) (nI i) (nI j) (nI 1) (mh m h σ) = some ((), mh m h σ') ∧ WRo σ σ' := by
  have hfn := hf.1
  have hb := hfn.1.1.1 t ht
  have he := eSit_0 hb.2.2.2.1 h1 hi hs
  have hok := sOK_0w (he.2.2.2.2.2 j hj)
  have h1o := oI_1 hb.2.2.2.1 h1 hi hs
  have hp := OB_sP hb h1 hi hs hj
  have hS24 := (OB_w hb).1.2.1.2
  have hsH : sH (tb t) i j < 2 ^ 32 := le_lt (OB_lt hb) _ 4
  unfold f_M_one f_M_one_138
  rw [e_o hm, bs, O_obj hm hb, xb_mk, e_o hm, bs, O_site hm (by omega) hb hi, xb_mk, e_o hm, bs, nI_add, O_sH hm (by omega) hb hp, xb_mk]
  by_cases c0 : sH (tb t) i j = 0
  · rw [if_pos (by rw [c0])]
    exact ⟨σ, rfl, FR_refl σ, hf.2.2.2⟩
  · have hwd0 : wd (sH (tb t) i j) ≠ 0 := fun e => by
      unfold wd at e
      rw [if_neg c0] at e
      split at e
      · cases e
      · split at e <;> cases e
    have h8 := hok.2.2.elim (fun q => absurd q hwd0) id
    have hin := hN.2.2.2.2.1 t (oI (tb t) i) ht h1o he.1 hsta
    have e1 : (24 * t + oI (tb t) i) / 24 = t := by have := he.1; omega
    have e2 : (24 * t + oI (tb t) i) % 24 = oI (tb t) i := by have := he.1; omega
    have ez : zS tb (24 * t + oI (tb t) i) = oZ (tb t) (oI (tb t) i) := by unfold zS; rw [e1, e2]
    have hG := oG_8 h8.1
    have hl := hlo _ hin (by unfold sS; rw [e1, e2]; exact sS_no hi hs) (by rw [e1, e2]; exact hG.1) (by rw [e1, e2]; exact hG.2) (by rw [ez]; omega)
    rw [e1, e2, ez] at hl
    have hg5 : oG (tb t) (oI (tb t) i) ≤ 5 := by unfold oG; repeat (first | omega | split)
    have hsg := sgO_2 (g := oG (tb t) (oI (tb t) i))
    generalize hsv : sgO (oG (tb t) (oI (tb t) i)) = s at *
    obtain ⟨r60, r61⟩ := hf.2.1 s (by omega)
    have hadx := had (24 * t + oI (tb t) i)
    have hfpx := hfp s
    generalize hav : ad (24 * t + oI (tb t) i) = a at *
    have hwd8 : wd (sH (tb t) i j) ≤ 8 := by
      have h16 := hok.1
      unfold wd at h16 ⊢
      repeat (first | omega | (split at h16 <;> split) | (exfalso; omega))
    have esi : siA tb ad t i j = lN (a + sL (tb t) i j) := by unfold siA; rw [hav]
    have ewd : wI (sH (tb t) i j) = nI (wd (sH (tb t) i j)) := by unfold wI; rw [if_neg hok.1]
    have hsk3 := skY_3 (tb := tb) (dr := dr) (xs := xs) (t := t) (i := i) (j := j)
    have hskL : 0 < skY tb dr xs t i j → 2 ≤ sL (tb t) i j ∧ wd (sH (tb t) i j) = 4 := fun q => by
      unfold skY at q
      split at q
      · rename_i c
        refine ⟨c.2.2.1, ?_⟩
        rcases c.1 with e | e <;> rw [e] <;> rfl
      · omega
    obtain ⟨σ', f1, f2⟩ := q_fillSite (F := F) (h := h) (σ := σ) (at0 := fpS s + (a + sL (tb t) i j) - bgS s) (n := wd (sH (tb t) i j)) (sk := skY tb dr xs t i j) (v := siV B (pf0 B tO tb ll) tO tb dr xs (sta tb dr on R) (slL T tb dr xs (sta tb dr on R)) (syA tb xs (ownV B (pf0 B tO tb ll) tO tb dr (sta tb dr on R) pp ad) NA) (siA tb ad t i j) sp tp pp t i j) hm (by omega) (by omega) hsk3 (fun q => by have := hskL q; omega) hf.2.2.2
    refine ⟨σ', ?_, f2⟩
    rw [if_neg (fun q => c0 ((lEQ (by omega) (by decide)).mp q)), e_o hm, bs, q_siteValue hm hF hfn hN ht h1 hi hs hj hsta h1o, xb_mk, if_neg (show ¬ nI 1 = 0 by decide), e_o hm, bs, O_info hm (by omega) hb hi, xb_mk, lN_i, e_o hm, bs, O_group hm (by omega) hb he.1, xb_mk, q_segmentOf (by omega), xb_mk, hsv, Mr60 hm, bs, Ma60 hm (by omega), bs, r60, e_o hm, bs, q_siteAddress hm hF hfn hN ht h1 hi hs hj hsta h1o, xb_mk, Mr61 hm, bs, Ma61 hm (by omega), bs, r61, q_width (by omega), xb_mk, e_o hm, bs, q_shortKind hm (by omega) hN.1 ⟨hfn.1.1.1, hfn.2.1.1, hfn.2.1.2.2⟩ ht h1 hi hs hj, xb_mk, e_o hm, bs, ewd]
    rw [show (lN (fpS s) + siA tb ad t i j - lN (bgS s)).toInt32 = nI (fpS s + (a + sL (tb t) i j) - bgS s) by rw [esi, lN_add, lN_sub (by omega), lN_i], f1, xb_mk]
theorem q_f1_61 (hm : m ≤ h.length) (hF : 65540 < F) (hN : FNo T tO tb dr xs (sta tb dr on R) ll B (slL T tb dr xs (sta tb dr on R))) (hlo : hLo tb ll ad fpS bgS) (had : ∀ x, ad x ≤ 2 ^ 39) (hfp : ∀ s, fpS s ≤ 2 ^ 39) (ht : t < T) (h1 : 1 ≤ i) (hi : i < oS (tb t)) (hs : isS (tb t) i = true) (hsta : sta tb dr on R t (oI (tb t) i) = true) : ∀ (c j g : Nat) (σ : px_S), j + c = sN (tb t) i → c < g → RFo σ T tO tn tq tb dr xs on R ll B NA ad fpS bgS sp tp pp → ∃ σd, f_M_sites_61 F k2 k19 g m (nI 1) (nI t) (nI (tO t)) (nI i) (nI j) (mh m h σ) = k19 m (nI 1) (nI t) (nI (tO t)) (nI (i + 1)) (mh m h σd) ∧ WRo σ σd := by
  intro c
  induction c with
  | zero =>
    intro j g σ hj hg hf
    obtain ⟨g, rfl⟩ : ∃ x, g = x + 1 := ⟨g - 1, by omega⟩
    have hb := hf.1.1.1.1 t ht
    have hz := (eSit_0 hb.2.2.2.1 h1 hi hs).2.2.2.1
    have hn := hb.2.2.1
    have hsz : sN (tb t) i < 2 ^ 30 := by unfold sN; omega
    unfold f_M_sites_61 f_M_sites_96
    rw [e_o hm, bs, O_sN hm (by omega) hb h1 hi hs, xb_mk, if_pos (nI_le (by omega) (by omega)), nI_add]
    exact ⟨σ, rfl, FR_refl σ, hf.2.2.2⟩
  | succ c ih =>
    intro j g σ hj hg hf
    obtain ⟨g, rfl⟩ : ∃ x, g = x + 1 := ⟨g - 1, by omega⟩
    have hb := hf.1.1.1.1 t ht
    have hz := (eSit_0 hb.2.2.2.1 h1 hi hs).2.2.2.1
    have hn := hb.2.2.1
    have hsz : sN (tb t) i < 2 ^ 30 := by unfold sN; omega
    obtain ⟨σ1, a1, a2⟩ := q_one1 (F := F) (j := j) hm hF hf hN hlo had hfp ht h1 hi hs (by omega) hsta
    obtain ⟨σ2, b1, b2⟩ := ih (j + 1) g σ1 (by omega) (by omega) (RFo_W hf a2)
    unfold f_M_sites_61
    rw [e_o hm, bs, O_sN hm (by omega) hb h1 hi hs, xb_mk, if_neg (nI_ge (by omega) (by omega)), Mg13 hm, bs, hf.2.2.1, if_pos (show nI 0 = 0 from rfl), e_o hm, bs, a1, xb_mk, nI_add]
    exact ⟨σ2, b1, WRo_tr a2 b2⟩
theorem q_f1_19 (hm : m ≤ h.length) (hF : 65540 < F) (hN : FNo T tO tb dr xs (sta tb dr on R) ll B (slL T tb dr xs (sta tb dr on R))) (hlo : hLo tb ll ad fpS bgS) (had : ∀ x, ad x ≤ 2 ^ 39) (hfp : ∀ s, fpS s ≤ 2 ^ 39) (ht : t < T) : ∀ (c i g : Nat) (σ : px_S), 1 ≤ i → i + c = oS (tb t) → c < g → RFo σ T tO tn tq tb dr xs on R ll B NA ad fpS bgS sp tp pp → ∃ σd, f_M_sites_19 F k2 g m (nI 1) (nI t) (nI (tO t)) (nI i) (mh m h σ) = k2 m (nI 1) (nI (t + 1)) (mh m h σd) ∧ WRo σ σd := by
  intro c
  induction c with
  | zero =>
    intro i g σ h1 hi hg hf
    obtain ⟨g, rfl⟩ : ∃ x, g = x + 1 := ⟨g - 1, by omega⟩
    have hb := hf.1.1.1.1 t ht
    have hs24 := (OB_w hb).1.2.1.2
    unfold f_M_sites_19 f_M_sites_102
    rw [e_o hm, bs, O_sec hm (by omega) hb, xb_mk, if_pos (nI_le (by omega) (by omega)), nI_add]
    exact ⟨σ, rfl, FR_refl σ, hf.2.2.2⟩
  | succ c ih =>
    intro i g σ h1 hi hg hf
    obtain ⟨g, rfl⟩ : ∃ x, g = x + 1 := ⟨g - 1, by omega⟩
    have hb := hf.1.1.1.1 t ht
    have hs24 := (OB_w hb).1.2.1.2
    have hiS : i < oS (tb t) := by omega
    have nx : ∀ σ1, WRo σ σ1 → ∃ σd, f_M_sites_19 F k2 g m (nI 1) (nI t) (nI (tO t)) (nI (i + 1)) (mh m h σ1) = k2 m (nI 1) (nI (t + 1)) (mh m h σd) ∧ WRo σ σd := fun σ1 w => by
      obtain ⟨σ2, b1, b2⟩ := ih (i + 1) g σ1 (by omega) (by omega) (by omega) (RFo_W hf w)
      exact ⟨σ2, b1, WRo_tr w b2⟩
    unfold f_M_sites_19 f_M_sites_96
    rw [e_o hm, bs, O_sec hm (by omega) hb, xb_mk, if_neg (nI_ge (by omega) (by omega)), e_o hm, bs, O_isS hm (by omega) hb hiS, xb_mk, nI_add]
    cases es : isS (tb t) i with
    | false =>
      rw [if_pos (show bI false = 0 from rfl)]
      exact nx σ ⟨FR_refl σ, hf.2.2.2⟩
    | true =>
      have he := eSit_0 hb.2.2.2.1 h1 hiS es
      rw [if_neg (show ¬ bI true = 0 by decide), e_o hm, bs, O_info hm (by omega) hb hiS, xb_mk, lN_i, e_o hm, bs, q_stays hm (by omega) hb hf.1.2.1.1 hf.1.2.1.2.1 he.1, xb_mk]
      cases er : sta tb dr on R t (oI (tb t) i) with
      | false =>
        rw [if_pos (show bI false = 0 from rfl)]
        exact nx σ ⟨FR_refl σ, hf.2.2.2⟩
      | true =>
        have hz := he.2.2.2.1
        have hn := hb.2.2.1
        have hsz : sN (tb t) i < 65536 := by unfold sN; omega
        obtain ⟨σ1, d1, d2⟩ := q_f1_61 (F := F) (k2 := k2) (k19 := f_M_sites_19 F k2 g) hm hF hN hlo had hfp ht h1 hiS es er (sN (tb t) i) 0 F σ (by omega) (by omega) hf
        rw [if_neg (show ¬ bI true = 0 by decide), d1]
        exact nx σ1 d2
theorem q_sites1 (hm : m ≤ h.length) (hF : 65540 < F) (hN : FNo T tO tb dr xs (sta tb dr on R) ll B (slL T tb dr xs (sta tb dr on R))) (hlo : hLo tb ll ad fpS bgS) (had : ∀ x, ad x ≤ 2 ^ 39) (hfp : ∀ s, fpS s ≤ 2 ^ 39) : ∀ (c t g : Nat) (σ : px_S), t + c = T → c < g → RFo σ T tO tn tq tb dr xs on R ll B NA ad fpS bgS sp tp pp → ∃ σd, f_M_sites_2 F g m (nI 1) (nI t) (mh m h σ) = some ((), mh m h σd) ∧ WRo σ σd := by
  have hT := hN.1.1
  intro c
  induction c with
  | zero =>
    intro t g σ ht hg hf
    obtain ⟨g, rfl⟩ : ∃ x, g = x + 1 := ⟨g - 1, by omega⟩
    unfold f_M_sites_2 f_M_sites_108
    rw [Mg14 hm, bs, hf.1.2.2.2.2.2.2.2.2, if_pos (nI_le (by omega) (by omega))]
    exact ⟨σ, rfl, FR_refl σ, hf.2.2.2⟩
  | succ c ih =>
    intro t g σ ht hg hf
    obtain ⟨g, rfl⟩ : ∃ x, g = x + 1 := ⟨g - 1, by omega⟩
    have hb := hf.1.1.1.1 t (by omega)
    have hs24 := (OB_w hb).1.2.1
    obtain ⟨σ1, a1, a2⟩ := q_f1_19 (F := F) (k2 := f_M_sites_2 F g) (t := t) hm hF hN hlo had hfp (by omega) (oS (tb t) - 1) 1 F σ (by omega) (by omega) (by omega) hf
    obtain ⟨σ2, b1, b2⟩ := ih (t + 1) g σ1 (by omega) (by omega) (RFo_W hf a2)
    unfold f_M_sites_2
    rw [Mg14 hm, bs, hf.1.2.2.2.2.2.2.2.2, if_neg (nI_ge (by omega) (by omega)), e_o hm, bs, O_obj hm hb, xb_mk, a1, b1]
    exact ⟨σ2, rfl, WRo_tr a2 b2⟩
end MFI
end
section
/-! write of the reference -/
section MWR
variable {F m T : Nat} {h : px_H} {σ : px_S} {B : Nat → Nat} {tb : Nat → Nat → Nat} {tO tn tq : Nat → Nat} {dr : Nat → Bool} {xs : px_NL} {ll : List Nat} {on : Bool} {R : Nat → Bool} {NA : Nat → Int64} {ad fpS bgS : Nat → Nat} {sp tp pp : Nat} {th : Nat → Bool}
theorem put_k {K : Unit → px_H → Option (Unit × px_H)} {a n : Nat} {v : Int64} (hm : m ≤ h.length) (hF : 65536 < F) (h3 : ∀ k, isB (gA σ 3 k)) (ha : a + n ≤ 65536) (hk : ∀ σ1, WRo σ σ1 → ∃ σ', K () (mh m h σ1) = some ((), mh m h σ') ∧ WRo σ1 σ') : ∃ σ', ((xo (mh m h σ) 12 m).bind fun _ => xb (f_M_put F m (nI a) v (nI n) (mh m h σ)) K) = some ((), mh m h σ') ∧ WRo σ σ' := by
  obtain ⟨σ1, p1, w1⟩ := q_put (F := F) (h := h) (v := v) hm hF ha h3
  obtain ⟨σ2, r1, w2⟩ := hk σ1 w1
  exact ⟨σ2, by rw [e_o hm, bs, p1, xb_mk, r1], WRo_tr w1 w2⟩
theorem put_x {K : Unit → px_H → Option (Unit × px_H)} {a n : Nat} {v : Int64} (hm : m ≤ h.length) (hF : 65536 < F) (h3 : ∀ k, isB (gA σ 3 k)) (ha : a + n ≤ 65536) (hk : ∀ σ1, WRo σ σ1 → ∃ σ', K () (mh m h σ1) = some ((), mh m h σ') ∧ WRo σ1 σ') : ∃ σ', xb (f_M_put F m (nI a) v (nI n) (mh m h σ)) K = some ((), mh m h σ') ∧ WRo σ σ' := by
  obtain ⟨σ1, p1, w1⟩ := q_put (F := F) (h := h) (v := v) hm hF ha h3
  obtain ⟨σ2, r1, w2⟩ := hk σ1 w1
  exact ⟨σ2, by rw [p1, xb_mk, r1], WRo_tr w1 w2⟩
/-- what the writing reads -/
def RFw (σ : px_S) (T : Nat) (tO tn tq : Nat → Nat) (tb : Nat → Nat → Nat) (dr : Nat → Bool) (xs : px_NL) (on : Bool) (R : Nat → Bool) (ll : List Nat) (B : Nat → Nat) (NA : Nat → Int64) (ad fpS bgS : Nat → Nat) (sp tp pp : Nat) (th : Nat → Bool) : Prop := RFo σ T tO tn tq tb dr xs on R ll B NA ad fpS bgS sp tp pp ∧ (∀ j, j < 3 → gA σ 59 j = bI (th j)) ∧ (∃ sg, sg ≤ 3 ∧ gI σ 15 = nI sg) ∧ (∃ thr, gI σ 82 = bI thr) ∧ RAd σ ll (fun _ => True) ad ∧ RC σ
theorem RFw_W {σ' : px_S} (hf : RFw σ T tO tn tq tb dr xs on R ll B NA ad fpS bgS sp tp pp th) (w : WRo σ σ') : RFw σ' T tO tn tq tb dr xs on R ll B NA ad fpS bgS sp tp pp th := by
  obtain ⟨f1, f2, ⟨sg, f3, f4⟩, ⟨thr, f5⟩, f6, f7⟩ := hf
  exact ⟨RFo_W f1 w, fun j hj => by rw [w.1.2.2.1 59 (by decide)]; exact f2 j hj, ⟨sg, f3, (w.1.1 15 (by decide)).trans f4⟩, ⟨thr, (w.1.1 82 (by decide)).trans f5⟩, RAd_FR f6 w.1 (by decide), RC_FR f7 w.1 (by decide) (by decide)⟩
/-- the room that the file has -/
def hRm (T : Nat) (tO : Nat → Nat) (tb : Nat → Nat → Nat) (dr : Nat → Bool) (xs : px_NL) (sy : Nat → Nat → Bool) (ll : List Nat) (B : Nat → Nat) (ad fpS bgS : Nat → Nat) (sp pp : Nat) : Prop := hLo tb ll ad fpS bgS ∧ (∀ x, ad x ≤ 2 ^ 39) ∧ (∀ s, fpS s ≤ 2 ^ 39) ∧ (0 < psz B (pf0 B tO tb ll) → bgS 1 ≤ pp ∧ fpS 1 + (pp - bgS 1) + psz B (pf0 B tO tb ll) ≤ 65536) ∧ (0 < (slL T tb dr xs sy).length → bgS 2 ≤ sp ∧ fpS 2 + (sp - bgS 2) + 8 * (slL T tb dr xs sy).length ≤ 65536) ∧ ∀ x, x ∈ ll → zS tb x ≤ 16384
theorem q_w_633 (hm : m ≤ h.length) (hF : 65540 < F) (hN : FNo T tO tb dr xs (sta tb dr on R) ll B (slL T tb dr xs (sta tb dr on R))) (hRr : hRm T tO tb dr xs (sta tb dr on R) ll B ad fpS bgS sp pp) : ∀ (c k g : Nat) (σ : px_S), k + c = (slL T tb dr xs (sta tb dr on R)).length → c < g → RFw σ T tO tn tq tb dr xs on R ll B NA ad fpS bgS sp tp pp th → ∃ σ', f_M_write_633 F g m (nI k) (mh m h σ) = some ((), mh m h σ') ∧ WRo σ σ' := by
  have hll := hN.2.2.2.2.2.1 _ hN.2.2.2.2.2.2
  have hT := hN.1.1
  intro c
  induction c with
  | zero =>
    intro k g σ hk hg hf
    obtain ⟨g, rfl⟩ : ∃ x, g = x + 1 := ⟨g - 1, by omega⟩
    obtain ⟨σ1, a1, a2⟩ := q_sites1 (F := F) (h := h) hm hF hN hRr.1 hRr.2.1 hRr.2.2.1 T 0 F σ (by omega) (by omega) hf.1
    unfold f_M_write_633 f_M_write_734 f_M_sites
    rw [Mg74 hm, bs, hf.1.1.2.2.1.1, if_pos (nI_le (by omega) (by omega)), e_o hm, bs, a1, xb_mk]
    exact ⟨σ1, rfl, a2⟩
  | succ c ih =>
    intro k g σ hk hg hf
    obtain ⟨g, rfl⟩ : ∃ x, g = x + 1 := ⟨g - 1, by omega⟩
    have hkl : k < (slL T tb dr xs (sta tb dr on R)).length := by omega
    have hz := List.getElem?_eq_getElem hkl
    have hzI := hN.2.2.2.2.2.2.2 _ (List.getElem_mem hkl)
    obtain ⟨r78, r75, r76, r77⟩ := hf.1.1.2.2.1.2 k _ hz
    generalize (slL T tb dr xs (sta tb dr on R))[k] = z at *
    obtain ⟨s60, s61⟩ := hf.1.2.1 2 (by decide)
    obtain ⟨b1, b2⟩ := hRr.2.2.2.2.1 (by omega)
    have hfp2 := hRr.2.2.1 2
    have fin : ∀ v w, ∃ σ', f_M_write_722 F (f_M_write_633 F g) m (nI k) m (nI (fpS 2 + (sp - bgS 2) + 8 * k)) v w (mh m h σ) = some ((), mh m h σ') ∧ WRo σ σ' := fun v w => by
      unfold f_M_write_722
      refine put_k hm (by omega) hf.1.2.2.2 (by omega) (fun σ1 w1 => ?_)
      rw [nI_add]
      exact ih (k + 1) g σ1 (by omega) (by omega) (RFw_W hf w1)
    have e705 : ∀ v, ∃ σ', f_M_write_705 F (f_M_write_633 F g) m (nI k) m (nI (fpS 2 + (sp - bgS 2) + 8 * k)) v (mh m h σ) = some ((), mh m h σ') ∧ WRo σ σ' := fun v => by
      unfold f_M_write_705
      rw [Mr78 hm, bs, Ma78 hm (by omega), bs, r78]
      cases decide (z % 2 = 1) with
      | false => rw [if_pos (show bI false = 0 from rfl)]; exact fin v _
      | true => rw [if_neg (show ¬ bI true = 0 by decide), Mg87 hm, bs]; exact fin v _
    have eat : (lN (fpS 2) + lN sp - lN (bgS 2)).toInt32 + nI 8 * nI k = nI (fpS 2 + (sp - bgS 2) + 8 * k) := by
      rw [lN_add, lN_sub (by omega), lN_i, pk_mul, nI_add]
      congr 1
      omega
    unfold f_M_write_633
    rw [Mg74 hm, bs, hf.1.1.2.2.1.1, if_neg (nI_ge (by omega) (by omega)), Mr60 hm, bs, Ma60 hm (by decide), bs, s60, Mg79 hm, bs, hf.1.1.2.2.2.2.2.1, Mr61 hm, bs, Ma61 hm (by decide), bs, s61, eat, Mr75 hm, bs, Ma75 hm (by omega), bs, r75]
    cases en : nmZ tb xs z with
    | none =>
      rw [if_pos (show tdA none < 0 from m1_neg), Mr76 hm, bs, Ma76 hm (by omega), bs, r76, Mr77 hm, bs, Ma77 hm (by omega), bs, r77, e_o hm, bs, q_symbolAddress hm hF hf.1.1 hN hzI.1 hzI.2, xb_mk]
      exact e705 _
    | some n =>
      have hn31 := nmZ_lt (σ := σ) hN.1 ⟨hf.1.1.1.1.1, hf.1.1.2.1.1, hf.1.1.2.1.2.2⟩ z n en
      have hnl : n < 4096 := by
        have hxl : xs.length ≤ 4096 := by have := hf.1.1.2.1.2.2.1.2.1; rw [List.length_map] at this; exact this
        unfold nmZ at en
        split at en
        · cases en
        · rename_i cz
          have hk0 : z / 2 % 64 ≠ 0 := fun q => cz (Or.inl q)
          obtain ⟨x, x1, _, _⟩ := plc_ix (hN.1.2.2.2.1 (z / 2 / 64) (z / 2 % 64) hzI.1 (by omega) hzI.2 (fun q => cz (Or.inr q)))
          have := (List.getElem?_eq_some_iff.mp x1).1
          have := Option.some.inj en
          omega
      rw [if_neg (show ¬ tdA (some n) < 0 from nI_pos hn31), Mr29 hm, bs, bs, Ma75 hm (by omega), bs, r75, en, show tdA (some n) = nI n from rfl, Ma29 hm hnl, bs]
      exact e705 _
theorem q_w_576 {K : Nat → Int32 → px_H → Option (Unit × px_H)} {P x to : Nat} (hm : m ≤ h.length) (hF : 65540 < F) (hP : P < 1536) (hx : ll[P]? = some x) (hx2 : x / 24 < T ∧ 1 ≤ x % 24 ∧ x % 24 < oS (tb (x / 24))) (hin : oP (tb (x / 24)) (x % 24) + zS tb x ≤ tn (x / 24)) (hz : zS tb x ≤ 16384) (hto : 0 < zS tb x → to + zS tb x ≤ 65536) : ∀ (c k g : Nat) (σ : px_S), k + c = zS tb x → c < g → RFw σ T tO tn tq tb dr xs on R ll B NA ad fpS bgS sp tp pp th → ∃ σ', f_M_write_576 F K g m (nI P) (nI (tO (x / 24))) (nI to) (nI k) (mh m h σ) = K m (nI (P + 1)) (mh m h σ') ∧ WRo σ σ' := by
  intro c
  induction c with
  | zero =>
    intro k g σ hk hg hf
    obtain ⟨g, rfl⟩ : ∃ x, g = x + 1 := ⟨g - 1, by omega⟩
    obtain ⟨r1, r2, r3, r4, r5, r6⟩ := hf.1.1.1.1.2.1.2 P x hx
    unfold f_M_write_576 f_M_write_625
    rw [Mr56 hm, bs, Ma56 hm hP, bs, r6, if_pos (show nI (oZ (tb (x / 24)) (x % 24)) ≤ nI k from nI_le (show zS tb x ≤ k by omega) (by omega)), nI_add]
    exact ⟨σ, rfl, FR_refl σ, hf.1.2.2.2⟩
  | succ c ih =>
    intro k g σ hk hg hf
    obtain ⟨g, rfl⟩ : ∃ x, g = x + 1 := ⟨g - 1, by omega⟩
    obtain ⟨r1, r2, r3, r4, r5, r6⟩ := hf.1.1.1.1.2.1.2 P x hx
    have hb := hf.1.1.1.1.1 _ hx2.1
    have hn := hb.2.2.1
    have hto2 := hto (by omega)
    have w := WRo_set (i := to + k) hf.1.2.2.2 (isB_8 (gA σ 6 (tO (x / 24) + (oP (tb (x / 24)) (x % 24) + k))))
    obtain ⟨σ2, j1, j2⟩ := ih (k + 1) g _ (by omega) (by omega) (RFw_W hf w)
    unfold f_M_write_576
    rw [Mr56 hm, bs, Ma56 hm hP, bs, r6, if_neg (show ¬ nI (oZ (tb (x / 24)) (x % 24)) ≤ nI k from nI_ge (show k < zS tb x by omega) (show zS tb x < 2 ^ 31 by omega)), Mr3 hm, bs, Mr6 hm, bs, Mr54 hm, bs, Ma54 hm hP, bs, r4, e_o hm, bs, O_beg hm (by omega) hb hx2.2.2, xb_mk, lN_i, nI_add, nI_add, Nat.add_assoc, O_byte hm hb (by omega), bs, nI_add, Ms3 hm (by omega), bs, nI_add]
    exact ⟨σ2, j1, WRo_tr w j2⟩
theorem q_w_481 (hm : m ≤ h.length) (hF : 65540 < F) (hN : FNo T tO tb dr xs (sta tb dr on R) ll B (slL T tb dr xs (sta tb dr on R))) (hRr : hRm T tO tb dr xs (sta tb dr on R) ll B ad fpS bgS sp pp) (hkp : ∀ x, x ∈ ll → oK (tb (x / 24)) (x % 24) = true) : ∀ (c P g : Nat) (σ : px_S), P + c = ll.length → c < g → RFw σ T tO tn tq tb dr xs on R ll B NA ad fpS bgS sp tp pp th → ∃ σ', f_M_write_481 F g m (nI P) (mh m h σ) = some ((), mh m h σ') ∧ WRo σ σ' := by
  have hl := hN.2.1
  have hl1 := hl.1
  have hll := hN.2.2.2.2.2.1 _ hN.2.2.2.2.2.2
  intro c
  induction c with
  | zero =>
    intro P g σ hP hg hf
    obtain ⟨g, rfl⟩ : ∃ x, g = x + 1 := ⟨g - 1, by omega⟩
    unfold f_M_write_481 f_M_write_631
    rw [Mg50 hm, bs, hf.1.1.1.1.2.1.1, if_pos (nI_le (by omega) (by omega))]
    exact q_w_633 hm hF hN hRr (slL T tb dr xs (sta tb dr on R)).length 0 F σ (by omega) (by omega) hf
  | succ c ih =>
    intro P g σ hP hg hf
    obtain ⟨g, rfl⟩ : ∃ x, g = x + 1 := ⟨g - 1, by omega⟩
    have hPl : P < ll.length := by omega
    have hx := List.getElem?_eq_getElem hPl
    have hxm := List.getElem_mem hPl
    have hx2 := hl.2 _ hxm
    have hlo := hRr.1 _ hxm
    have hz := hRr.2.2.2.2.2 _ hxm
    have hk := hkp _ hxm
    generalize ll[P] = x at *
    obtain ⟨r1, r2, r3, r4, r5, r6⟩ := hf.1.1.1.1.2.1.2 P x hx
    have hb := hf.1.1.1.1.1 _ hx2.1
    have hG : oG (tb (x / 24)) (x % 24) ≤ 5 := by unfold oG; repeat (first | omega | split)
    have nx : ∀ σ1, WRo σ σ1 → ∃ σ', f_M_write_481 F g m (nI (P + 1)) (mh m h σ1) = some ((), mh m h σ') ∧ WRo σ σ' := fun σ1 w => by
      obtain ⟨σ2, b1, b2⟩ := ih (P + 1) g σ1 (by omega) (by omega) (RFw_W hf w)
      exact ⟨σ2, b1, WRo_tr w b2⟩
    unfold f_M_write_481 f_M_write_625
    rw [Mg50 hm, bs, hf.1.1.1.1.2.1.1, if_neg (nI_ge (by omega) (by omega)), Mr51 hm, bs, Ma51 hm (by omega), bs, r1, e_o hm, bs, O_obj hm hb, xb_mk, Mr55 hm, bs, Ma55 hm (by omega), bs, r5, nI_add]
    by_cases c3 : oG (tb (x / 24)) (x % 24) = 3
    · rw [if_pos (by rw [c3])]
      exact nx σ ⟨FR_refl σ, hf.1.2.2.2⟩
    · rw [if_neg (fun q => c3 ((nI_eq (by omega) (by decide)).mp q)), bs, Ma55 hm (by omega), bs, r5]
      by_cases c5 : oG (tb (x / 24)) (x % 24) = 5
      · rw [if_pos (by rw [c5])]
        exact nx σ ⟨FR_refl σ, hf.1.2.2.2⟩
      · rw [if_neg (fun q => c5 ((nI_eq (by omega) (by decide)).mp q)), Mr54 hm, bs, Ma54 hm (by omega), bs, r4, e_o hm, bs, q_isStrings hm (by omega) hb hx2.2.2, xb_mk]
        cases es : oStr (tb (x / 24)) (x % 24) with
        | true =>
          rw [if_neg (show ¬ bI true = 0 by decide)]
          exact nx σ ⟨FR_refl σ, hf.1.2.2.2⟩
        | false =>
          have hsg := sgO_2 (g := oG (tb (x / 24)) (x % 24))
          have hin : oP (tb (x / 24)) (x % 24) + zS tb x ≤ tn (x / 24) := by
            have h8 : oT (tb (x / 24)) (x % 24) ≠ 8 := fun e => by
              have hg8 : oG (tb (x / 24)) (x % 24) = 5 ∨ oG (tb (x / 24)) (x % 24) = 3 := by
                unfold oG
                rw [if_pos e, if_pos e]
                split
                · exact Or.inl rfl
                · exact Or.inr rfl
              exact hg8.elim c5 c3
            have h0 : oT (tb (x / 24)) (x % 24) ≠ 0 := fun e => by
              unfold oK at hk
              have := of_decide_eq_true hk
              omega
            exact (OB_w hb).1.2.2.2.1 _ hx2.2.2 h0 h8
          generalize hsv : sgO (oG (tb (x / 24)) (x % 24)) = s at *
          obtain ⟨s60, s61⟩ := hf.1.2.1 s (by omega)
          have a57 := (hf.2.2.2.2.1 P x hx trivial).1
          rw [if_pos (show bI false = 0 from rfl), Mr55 hm, bs, Ma55 hm (by omega), bs, r5, q_segmentOf (by omega), xb_mk, hsv, Mr60 hm, bs, Ma60 hm (by omega), bs, s60, Mr57 hm, bs, Ma57 hm (by omega), bs, a57, Mr61 hm, bs, Ma61 hm (by omega), bs, s61]
          by_cases cz : 0 < zS tb x
          · obtain ⟨l1, l2⟩ := hlo es c3 c5 cz
            rw [show (lN (fpS s) + lN (ad x) - lN (bgS s)).toInt32 = nI (fpS s + ad x - bgS s) by rw [lN_add, lN_sub (by omega), lN_i]]
            obtain ⟨σ1, d1, d2⟩ := q_w_576 (F := F) (h := h) (K := f_M_write_481 F g) (to := fpS s + ad x - bgS s) hm hF (by omega) hx hx2 hin hz (fun _ => by omega) (zS tb x) 0 F σ (by omega) (by omega) hf
            rw [d1]
            exact nx σ1 d2
          · obtain ⟨F1, hF1⟩ : ∃ y, F = y + 1 := ⟨F - 1, by omega⟩
            rw [show ∀ a b, f_M_write_576 F (f_M_write_481 F g) F m a b = f_M_write_576 F (f_M_write_481 F g) (F1 + 1) m a b from fun a b => by rw [← hF1]]
            unfold f_M_write_576 f_M_write_625
            rw [Mr56 hm, bs, Ma56 hm (by omega), bs, r6, if_pos (show nI (oZ (tb (x / 24)) (x % 24)) ≤ nI 0 by rw [show oZ (tb (x / 24)) (x % 24) = 0 from Nat.eq_zero_of_not_pos cz]; decide), nI_add]
            exact nx σ ⟨FR_refl σ, hf.1.2.2.2⟩
theorem q_w_433 (hm : m ≤ h.length) (hF : 65540 < F) (hN : FNo T tO tb dr xs (sta tb dr on R) ll B (slL T tb dr xs (sta tb dr on R))) (hRr : hRm T tO tb dr xs (sta tb dr on R) ll B ad fpS bgS sp pp) (hkp : ∀ x, x ∈ ll → oK (tb (x / 24)) (x % 24) = true) : ∀ (c k g : Nat) (σ : px_S), k + c = psz B (pf0 B tO tb ll) → c < g → RFw σ T tO tn tq tb dr xs on R ll B NA ad fpS bgS sp tp pp th → ∃ σ', f_M_write_433 F g m (nI k) (mh m h σ) = some ((), mh m h σ') ∧ WRo σ σ' := by
  have hsz := PIn_sz hN.2.2.2.1
  have hl1 := hN.2.1.1
  intro c
  induction c with
  | zero =>
    intro k g σ hk hg hf
    obtain ⟨g, rfl⟩ : ∃ x, g = x + 1 := ⟨g - 1, by omega⟩
    unfold f_M_write_433 f_M_write_479
    rw [Mg88 hm, bs, hf.1.1.1.2.2.2.1, if_pos (nI_le (by omega) (by omega))]
    exact q_w_481 hm hF hN hRr hkp ll.length 0 F σ (by omega) (by omega) hf
  | succ c ih =>
    intro k g σ hk hg hf
    obtain ⟨g, rfl⟩ : ∃ x, g = x + 1 := ⟨g - 1, by omega⟩
    obtain ⟨b1, b2⟩ := hRr.2.2.2.1 (by omega)
    obtain ⟨s60, s61⟩ := hf.1.2.1 1 (by decide)
    have w := WRo_set (i := fpS 1 + pp - bgS 1 + k) hf.1.2.2.2 (isB_8 (gA σ 91 k))
    obtain ⟨σ2, j1, j2⟩ := ih (k + 1) g _ (by omega) (by omega) (RFw_W hf w)
    unfold f_M_write_433
    rw [Mg88 hm, bs, hf.1.1.1.2.2.2.1, if_neg (nI_ge (by omega) (by omega)), Mr3 hm, bs, Mr60 hm, bs, Ma60 hm (by decide), bs, s60, Mg90 hm, bs, hf.1.1.2.2.2.2.2.2.2.1, Mr61 hm, bs, Ma61 hm (by decide), bs, s61, Mr91 hm, bs, Ma91 hm (by omega), bs, show (lN (fpS 1) + lN pp - lN (bgS 1)).toInt32 + nI k = nI (fpS 1 + pp - bgS 1 + k) by rw [lN_add, lN_sub (by omega), lN_i, nI_add], Ms3 hm (by omega), bs, nI_add]
    exact ⟨σ2, j1, WRo_tr w j2⟩
theorem q_w_306 {at0 : Nat} (hm : m ≤ h.length) (hF : 65540 < F) (hN : FNo T tO tb dr xs (sta tb dr on R) ll B (slL T tb dr xs (sta tb dr on R))) (hRr : hRm T tO tb dr xs (sta tb dr on R) ll B ad fpS bgS sp pp) (hkp : ∀ x, x ∈ ll → oK (tb (x / 24)) (x % 24) = true) (ha : at0 ≤ 300) (hf : RFw σ T tO tn tq tb dr xs on R ll B NA ad fpS bgS sp tp pp th) : ∃ σ', f_M_write_306 F m (nI at0) (mh m h σ) = some ((), mh m h σ') ∧ WRo σ σ' := by
  have hsz := PIn_sz hN.2.2.2.1
  have e431 : ∀ σ1, RFw σ1 T tO tn tq tb dr xs on R ll B NA ad fpS bgS sp tp pp th → ∃ σ', f_M_write_431 F m (mh m h σ1) = some ((), mh m h σ') ∧ WRo σ1 σ' := fun σ1 hf1 => by
    unfold f_M_write_431
    exact q_w_433 hm hF hN hRr hkp (psz B (pf0 B tO tb ll)) 0 F σ1 (by omega) (by omega) hf1
  obtain ⟨thr, h82⟩ := hf.2.2.2.1
  unfold f_M_write_306
  rw [Mg82 hm, bs, h82]
  cases thr with
  | false => rw [if_pos (show bI false = 0 from rfl)]; exact e431 σ hf
  | true =>
    rw [if_neg (show ¬ bI true = 0 by decide)]
    have hF' : 65536 < F := by omega
    refine put_k hm hF' hf.1.2.2.2 (by omega) (fun σ1 w1 => ?_)
    rw [nI_add]
    refine put_k hm hF' w1.2 (by omega) (fun σ2 w2 => ?_)
    rw [Mr60 hm, bs, Ma60 hm (by decide), bs, Mg83 hm, bs, Mr61 hm, bs, Ma61 hm (by decide), bs, nI_add]
    refine put_k hm hF' w2.2 (by omega) (fun σ3 w3 => ?_)
    rw [Mg83 hm, bs, nI_add]
    refine put_k hm hF' w3.2 (by omega) (fun σ4 w4 => ?_)
    rw [Mg83 hm, bs, nI_add]
    refine put_k hm hF' w4.2 (by omega) (fun σ5 w5 => ?_)
    rw [Mg84 hm, bs, nI_add]
    refine put_k hm hF' w5.2 (by omega) (fun σ6 w6 => ?_)
    rw [Mg85 hm, bs, nI_add]
    refine put_k hm hF' w6.2 (by omega) (fun σ7 w7 => ?_)
    rw [Mg86 hm, bs, nI_add]
    refine put_k hm hF' w7.2 (by omega) (fun σ8 w8 => ?_)
    exact e431 σ8 (RFw_W (RFw_W (RFw_W (RFw_W (RFw_W (RFw_W (RFw_W (RFw_W hf w1) w2) w3) w4) w5) w6) w7) w8)
theorem q_w_148 (hm : m ≤ h.length) (hF : 65540 < F) (hN : FNo T tO tb dr xs (sta tb dr on R) ll B (slL T tb dr xs (sta tb dr on R))) (hRr : hRm T tO tb dr xs (sta tb dr on R) ll B ad fpS bgS sp pp) (hkp : ∀ x, x ∈ ll → oK (tb (x / 24)) (x % 24) = true) : ∀ (c s at0 g : Nat) (σ : px_S), s + c = 3 → c < g → at0 ≤ 64 + 56 * s → RFw σ T tO tn tq tb dr xs on R ll B NA ad fpS bgS sp tp pp th → ∃ σ', f_M_write_148 F g m (nI at0) (nI s) (mh m h σ) = some ((), mh m h σ') ∧ WRo σ σ' := by
  have hF' : 65536 < F := by omega
  intro c
  induction c with
  | zero =>
    intro s at0 g σ hs hg ha hf
    obtain ⟨g, rfl⟩ : ∃ x, g = x + 1 := ⟨g - 1, by omega⟩
    unfold f_M_write_148
    rw [if_pos (nI_le (by omega) (by omega))]
    exact q_w_306 hm hF hN hRr hkp (by omega) hf
  | succ c ih =>
    intro s at0 g σ hs hg ha hf
    obtain ⟨g, rfl⟩ : ∃ x, g = x + 1 := ⟨g - 1, by omega⟩
    have e200 : ∀ (v : Int64) (σ1 : px_S), RFw σ1 T tO tn tq tb dr xs on R ll B NA ad fpS bgS sp tp pp th → ∃ σ', f_M_write_200 F (f_M_write_148 F g) m (nI at0) (nI s) m (nI (at0 + 4)) v (mh m h σ1) = some ((), mh m h σ') ∧ WRo σ1 σ' := fun v σ1 hf1 => by
      unfold f_M_write_200 f_M_write_300
      refine put_k hm hF' hf1.1.2.2.2 (by omega) (fun σ2 w2 => ?_)
      rw [Mr60 hm, bs, Ma60 hm (by omega), bs, nI_add]
      refine put_k hm hF' w2.2 (by omega) (fun σ3 w3 => ?_)
      rw [Mr61 hm, bs, Ma61 hm (by omega), bs, nI_add]
      refine put_k hm hF' w3.2 (by omega) (fun σ4 w4 => ?_)
      rw [Mr61 hm, bs, Ma61 hm (by omega), bs, nI_add]
      refine put_k hm hF' w4.2 (by omega) (fun σ5 w5 => ?_)
      rw [Mr62 hm, bs, Ma62 hm (by omega), bs, nI_add]
      refine put_k hm hF' w5.2 (by omega) (fun σ6 w6 => ?_)
      rw [Mr63 hm, bs, Ma63 hm (by omega), bs, nI_add]
      refine put_k hm hF' w6.2 (by omega) (fun σ7 w7 => ?_)
      rw [nI_add]
      refine put_k hm hF' w7.2 (by omega) (fun σ8 w8 => ?_)
      rw [nI_add, nI_add]
      exact ih (s + 1) (at0 + 56) g σ8 (by omega) (by omega) (by omega) (RFw_W (RFw_W (RFw_W (RFw_W (RFw_W (RFw_W (RFw_W hf1 w2) w3) w4) w5) w6) w7) w8)
    unfold f_M_write_148 f_M_write_300
    rw [if_neg (nI_ge (by omega) (by omega)), Mr59 hm, bs, Ma59 hm (by omega), bs, hf.2.1 s (by omega), nI_add s 1]
    cases th s with
    | false =>
      rw [if_pos (show bI false = 0 from rfl)]
      exact ih (s + 1) at0 g σ (by omega) (by omega) (by omega) hf
    | true =>
      rw [if_neg (show ¬ bI true = 0 by decide)]
      refine put_k hm hF' hf.1.2.2.2 (by omega) (fun σ1 w1 => ?_)
      rw [nI_add at0 4]
      have hf1 := RFw_W hf w1
      split
      · exact e200 _ σ1 hf1
      · split
        · exact e200 _ σ1 hf1
        · exact e200 _ σ1 hf1
theorem q_w_32 (hm : m ≤ h.length) (hF : 65540 < F) (hN : FNo T tO tb dr xs (sta tb dr on R) ll B (slL T tb dr xs (sta tb dr on R))) (hRr : hRm T tO tb dr xs (sta tb dr on R) ll B ad fpS bgS sp pp) (hkp : ∀ x, x ∈ ll → oK (tb (x / 24)) (x % 24) = true) (hst : (dfI wST xs).isSome = true) (hf : RFw σ T tO tn tq tb dr xs on R ll B NA ad fpS bgS sp tp pp th) : ∃ σ', f_M_write_32 F m (mh m h σ) = some ((), mh m h σ') ∧ WRo σ σ' := by
  have hF' : 65536 < F := by omega
  obtain ⟨i, hi⟩ := Option.isSome_iff_exists.mp hst
  have hxl : xs.length ≤ 4096 := by have := hf.1.1.2.1.2.2.1.2.1; rw [List.length_map] at this; exact this
  have hi2 : i < 4096 := by
    unfold dfI at hi
    split at hi
    · cases hi
    · rename_i ei
      split at hi
      · cases hi
      · have := idx_lt ei
        rw [List.length_map] at this
        have := Option.some.inj hi
        omega
  unfold f_M_write_32
  refine put_k (a := 0) hm hF' hf.1.2.2.2 (by omega) (fun σ1 w1 => ?_)
  refine put_k hm hF' w1.2 (by omega) (fun σ2 w2 => ?_)
  refine put_k hm hF' w2.2 (by omega) (fun σ3 w3 => ?_)
  refine put_k hm hF' w3.2 (by omega) (fun σ4 w4 => ?_)
  have hf4 := RFw_W (RFw_W (RFw_W (RFw_W hf w1) w2) w3) w4
  rw [Mr29 hm, bs, e_o hm, bs, q_start hm (by omega) hf4.1.1.2.1.2.2 hN.1.2.1 hf4.2.2.2.2.2, xb_mk, hi, show tdA (some i) = nI i from rfl, Ma29 hm hi2, bs]
  refine put_k hm hF' w4.2 (by omega) (fun σ5 w5 => ?_)
  refine put_k hm hF' w5.2 (by omega) (fun σ6 w6 => ?_)
  refine put_k hm hF' w6.2 (by omega) (fun σ7 w7 => ?_)
  refine put_k hm hF' w7.2 (by omega) (fun σ8 w8 => ?_)
  have hf8 := RFw_W (RFw_W (RFw_W (RFw_W hf4 w5) w6) w7) w8
  rw [Mg15 hm, bs, Mg82 hm, bs]
  have e137 : ∀ x y, ∃ σ', f_M_write_137 F m m (nI 56) x y (mh m h σ8) = some ((), mh m h σ') ∧ WRo σ8 σ' := fun x y => by
    unfold f_M_write_137
    refine put_k hm hF' w8.2 (by omega) (fun σ9 w9 => ?_)
    exact q_w_148 hm hF hN hRr hkp 3 0 64 F σ9 (by omega) (by omega) (by omega) (RFw_W hf8 w9)
  split
  · exact e137 _ _
  · exact e137 _ _
theorem q_w_11 {fe : Nat} (hm : m ≤ h.length) (hfe : fe ≤ 65536) : ∀ (c k g : Nat) (σ : px_S), k + c = fe → c < g → gI σ 4 = nI fe → (∀ k, isB (gA σ 3 k)) → ∃ σ', f_M_write_11 F g m (nI k) (mh m h σ) = f_M_write_32 F m (mh m h σ') ∧ WRo σ σ' := by
  intro c
  induction c with
  | zero =>
    intro k g σ hk hg h4 h3
    obtain ⟨g, rfl⟩ : ∃ x, g = x + 1 := ⟨g - 1, by omega⟩
    unfold f_M_write_11
    rw [Mg4 hm, bs, h4, if_pos (nI_le (by omega) (by omega))]
    exact ⟨σ, rfl, FR_refl σ, h3⟩
  | succ c ih =>
    intro k g σ hk hg h4 h3
    obtain ⟨g, rfl⟩ : ∃ x, g = x + 1 := ⟨g - 1, by omega⟩
    have w := WRo_set (σ := σ) (i := k) h3 (isB_8 (nI 0))
    obtain ⟨σ2, j1, j2⟩ := ih (k + 1) g _ (by omega) (by omega) ((w.1.1 4 (by decide)).trans h4) w.2
    unfold f_M_write_11
    rw [Mg4 hm, bs, h4, if_neg (nI_ge (by omega) (by omega)), Mr3 hm, bs, Ms3 hm (by omega), bs, nI_add]
    exact ⟨σ2, j1, WRo_tr w j2⟩
theorem q_write {fe : Nat} (hm : m ≤ h.length) (hF : 65540 < F) (hN : FNo T tO tb dr xs (sta tb dr on R) ll B (slL T tb dr xs (sta tb dr on R))) (hRr : hRm T tO tb dr xs (sta tb dr on R) ll B ad fpS bgS sp pp) (hkp : ∀ x, x ∈ ll → oK (tb (x / 24)) (x % 24) = true) (hst : (dfI wST xs).isSome = true) (hf : RFw σ T tO tn tq tb dr xs on R ll B NA ad fpS bgS sp tp pp th) (hfe : fe ≤ 65536) (h64 : gJ σ 64 = lN fe) : ∃ σ', f_M_write F m (mh m h σ) = some ((), mh m h σ') ∧ gI σ' 4 = nI fe ∧ (∀ k, isB (gA σ' 3 k)) ∧ FR [4] [] [3] [] σ σ' := by
  have f1 := FR_I σ 4 (nI fe)
  have hf1 : RFw (sI σ 4 (nI fe)) T tO tn tq tb dr xs on R ll B NA ad fpS bgS sp tp pp th := by
    obtain ⟨⟨g1, g2, g3, g4⟩, f2, ⟨sg, f3, f4⟩, ⟨thr, f5⟩, f6, f7⟩ := hf
    exact ⟨⟨RFn_FR g1 f1 (by decide) (by decide) (by decide) (by decide), g2, g3, g4⟩, f2, ⟨sg, f3, f4⟩, ⟨thr, f5⟩, RAd_FR f6 f1 (by decide), RC_FR f7 f1 (by decide) (by decide)⟩
  have g4 : gI (sI σ 4 (nI fe)) 4 = nI fe := by rw [gI_sI, if_pos rfl]
  have p4 : xpI (mh m h σ) 12 4 m (nI fe) = some (mh m h (sI σ 4 (nI fe))) := Mp4 hm _
  generalize sI σ 4 (nI fe) = σ1 at *
  obtain ⟨σ2, a1, a2⟩ := q_w_11 (F := F) (h := h) hm hfe fe 0 F σ1 (by omega) (by omega) g4 hf1.1.2.2.2
  obtain ⟨σ3, b1, b2⟩ := q_w_32 (F := F) (h := h) hm hF hN hRr hkp hst (RFw_W hf1 a2)
  refine ⟨σ3, ?_, ?_, b2.2, FR_trans (FR_mono f1 (by decide) (by decide) (by decide) (by decide)) (FR_trans (FR_mono a2.1 (by decide) (by decide) (by decide) (by decide)) (FR_mono b2.1 (by decide) (by decide) (by decide) (by decide)))⟩
  · unfold f_M_write
    rw [Mg64 hm, bs, h64, lN_i, p4, bs, a1, b1]
  · rw [b2.1.1 4 (by decide), a2.1.1 4 (by decide)]; exact g4
end MWR
end
section
/-! keepLink of the reference -/
def okS (v : Int32) : Prop := ∃ o : Option Nat, v = tdA o ∧ ∀ s, o = some s → s < 3
section MKL
variable {F m T : Nat} {h : px_H} {tb : Nat → Nat → Nat} {tO tn : Nat → Nat} {dr : Nat → Bool} {xs : px_NL} {od : List Nat} {on : Bool} {R rn : Nat → Bool}
theorem q_kL_10 {fe : Nat} (hm : m ≤ h.length) (hfe : fe ≤ 65536) : ∀ (c k g : Nat) (σ : px_S), k + c = fe → c < g → gI σ 4 = nI fe → (∀ k, isB (gA σ 42 k)) → ∃ σ', f_M_keepLink_10 F g m (nI k) (mh m h σ) = f_M_keepLink_36 F m (mh m h σ') ∧ (∀ k, isB (gA σ' 42 k)) ∧ FR [] [] [42] [] σ σ' := by
  intro c
  induction c with
  | zero =>
    intro k g σ hk hg h4 h42
    obtain ⟨g, rfl⟩ : ∃ x, g = x + 1 := ⟨g - 1, by omega⟩
    unfold f_M_keepLink_10
    rw [Mg4 hm, bs, h4, if_pos (nI_le (by omega) (by omega))]
    exact ⟨σ, rfl, h42, FR_refl σ⟩
  | succ c ih =>
    intro k g σ hk hg h4 h42
    obtain ⟨g, rfl⟩ : ∃ x, g = x + 1 := ⟨g - 1, by omega⟩
    unfold f_M_keepLink_10
    rw [Mg4 hm, bs, h4, if_neg (nI_ge (by omega) (by omega)), Mr42 hm, bs, Mr3 hm, bs, Ma3 hm (by omega), bs, Ms42 hm (by omega), bs, nI_add]
    have f1 := FR_A σ 42 (upd (gA σ 42) k (gA σ 3 k).toInt8.toInt32)
    obtain ⟨σ2, j1, j2, j3⟩ := ih (k + 1) g _ (by omega) (by omega) ((f1.1 4 (by decide)).trans h4) (fun q => by
      show isB (upd (gA σ 42) k _ q)
      by_cases c1 : q = k
      · rw [c1, upd_eq]; exact isB_8 _
      · rw [upd_ne c1]; exact h42 q)
    exact ⟨σ2, j1, j2, FR_trans f1 j3⟩
abbrev klA : List Nat := [38, 39]
theorem q_kL_38 (hm : m ≤ h.length) (hF : 65540 < F) (hWP : WP T tb dr xs) (hod : ∀ d, d ∈ od → d < xs.length) (hoS : ∀ d, d ∈ od → stN xs d = 1 ∨ stN xs d = 2 ∨ stN xs d = 3) : ∀ (c P g : Nat) (σ : px_S), P + c = od.length → c < g → RWd σ T tO tn tb dr xs → RO σ od → RRn σ xs on rn → RSt σ on R → (∀ (Q n : Nat), Q < P → od[Q]? = some n → okS (gA σ 39 n)) → ∃ σ', f_M_keepLink_38 F g m (nI P) (mh m h σ) = some ((), mh m h σ') ∧ (∀ (Q n : Nat), od[Q]? = some n → okS (gA σ' 39 n)) ∧ FR [] [] klA [41] σ σ' := by
  intro c
  induction c with
  | zero =>
    intro P g σ hP hg hR ho hc hs hQ
    obtain ⟨g, rfl⟩ : ∃ x, g = x + 1 := ⟨g - 1, by omega⟩
    have hol := ho.2.1
    unfold f_M_keepLink_38 f_M_keepLink_266
    rw [Mg48 hm, bs, ho.1, if_pos (nI_le (by omega) (by omega))]
    exact ⟨σ, rfl, fun Q n hn => hQ Q n (by have := (List.getElem?_eq_some_iff.mp hn).1; omega) hn, FR_refl σ⟩
  | succ c ih =>
    intro P g σ hP hg hR ho hc hs hQ
    obtain ⟨g, rfl⟩ : ∃ x, g = x + 1 := ⟨g - 1, by omega⟩
    have hol := ho.2.1
    have hxl : xs.length ≤ 4096 := by have := hR.2.2.1.2.1; rw [List.length_map] at this; exact this
    have hPl : P < od.length := by omega
    have hx := List.getElem?_eq_getElem hPl
    have hn := hod _ (List.getElem_mem hPl)
    have hns := hoS _ (List.getElem_mem hPl)
    generalize od[P] = n at *
    obtain ⟨x, hxn⟩ : ∃ x, xs[n]? = some x := ⟨xs[n], List.getElem?_eq_getElem hn⟩
    rw [stN_at hxn] at hns
    have rr := hR.2.2.2 n x hxn
    have hby := hWP.2.2.1 n x hxn
    have hgv : ∀ q, x.2.2.2.2.1 = some q → q.1 < 64 := fun q hq => by
      have := hby
      unfold byP at this
      rw [hq] at this
      have := this.1
      have := hWP.1
      omega
    -- whatever is written, the loop goes on
    have nx : ∀ σ1, FR [] [] klA [41] σ σ1 → okS (gA σ1 39 n) → (∀ j, j ≠ n → gA σ1 39 j = gA σ 39 j) → ∃ σ', f_M_keepLink_38 F g m (nI (P + 1)) (mh m h σ1) = some ((), mh m h σ') ∧ (∀ (Q n : Nat), od[Q]? = some n → okS (gA σ' 39 n)) ∧ FR [] [] klA [41] σ σ' := by
      intro σ1 f1 hk1 hk2
      obtain ⟨σ2, b1, b2, b3⟩ := ih (P + 1) g σ1 (by omega) (by omega) (RWd_FR hR f1 (by decide) (by decide) (by decide)) (RO_FR ho f1 (by decide) (by decide)) (RRn_FR hc f1 (by decide) (by decide)) (RSt_FR hs f1 (by decide) (by decide)) (fun Q n' hQ' hn' => by
        by_cases e : n' = n
        · rw [e]; exact hk1
        · rw [hk2 n' e]
          refine hQ Q n' ?_ hn'
          by_cases eq : Q = P
          · rw [eq, hx] at hn'
            exact absurd (Option.some.inj hn').symm e
          · omega)
      exact ⟨σ2, b1, b2, FR_trans f1 b3⟩
    have e120 : ∀ (σ1 : px_S) (v : Int32) (cm : Bool), FR [] [] klA [41] σ σ1 → gA σ1 39 = gA σ 39 → okS v → cm = decide (x.2.1 = 2) → ∃ σ', f_M_keepLink_120 F (f_M_keepLink_38 F g) m (nI P) (nI n) (bI cm) (m + 29) (nI n) v (mh m h σ1) = some ((), mh m h σ') ∧ (∀ (Q n : Nat), od[Q]? = some n → okS (gA σ' 39 n)) ∧ FR [] [] klA [41] σ σ' := by
      intro σ1 v cm f1 h39 hv hcm
      unfold f_M_keepLink_120 f_M_keepLink_260
      rw [Ms39 hm (by omega), bs, nI_add]
      have f2 : FR [] [] klA [41] σ1 (sA σ1 39 (upd (gA σ1 39) n v)) := FR_mono (FR_A σ1 39 _) (by decide) (by decide) (by decide) (by decide)
      have g39 : gA (sA σ1 39 (upd (gA σ1 39) n v)) 39 = upd (gA σ 39) n v := by rw [gA_sA, if_pos rfl, h39]
      generalize sA σ1 39 (upd (gA σ1 39) n v) = σ2 at *
      have f12 := FR_trans f1 f2
      have done1 : ∃ σ', f_M_keepLink_38 F g m (nI (P + 1)) (mh m h σ2) = some ((), mh m h σ') ∧ (∀ (Q n : Nat), od[Q]? = some n → okS (gA σ' 39 n)) ∧ FR [] [] klA [41] σ σ' := nx σ2 f12 (by rw [g39, upd_eq]; exact hv) (fun j hj => by rw [g39, upd_ne hj])
      cases ecm : cm with
      | true => rw [if_neg (show ¬ bI true = 0 by decide)]; exact done1
      | false =>
        rw [ecm] at hcm
        have c2 : x.2.1 ≠ 2 := fun q => by rw [decide_eq_true q] at hcm; cases hcm
        have hR2 := RWd_FR hR f12 (by decide) (by decide) (by decide)
        rw [if_pos (show bI false = 0 from rfl), e_o hm, bs, q_isGiven hm hR2.2.2 hWP.2.1 hxn hgv, xb_mk]
        cases eq : x.2.2.2.2.1 with
        | none =>
          have hb0 := hby
          unfold byP at hb0
          rw [eq] at hb0
          have hb0 : x.2.1 = 0 ∨ x.2.1 = 3 ∨ x.2.1 = 4 := hb0
          rw [decide_eq_true (show x.2.1 = 3 by omega), if_neg (by decide)]
          exact done1
        | some q =>
          have hb0 := hby
          unfold byP at hb0
          rw [eq] at hb0
          obtain ⟨b1, b2, b3, b4, b5, b6⟩ := hb0
          have rr2 := hR2.2.2.2 n x hxn
          have hy := rr2.2.2.2.1
          rw [eq] at hy
          have hy : gA σ2 24 n = nI q.1 ∧ gA σ2 25 n = nI q.2 := hy
          have hb := hR2.1 q.1 b1
          have hyP := w2_y (OB_w hb) b2.2
          have hwl := wNo_lt (k := q.2) (dr := dr) hb
          have hx4 : yP (tb q.1) q.2 + 4 < tn q.1 := by omega
          rw [show (some q).isNone = false from rfl, Bool.and_false, if_pos (show bI false = 0 from rfl), Mr24 hm, bs, Ma24 hm (by omega), bs, hy.1, Mr25 hm, bs, Ma25 hm (by omega), bs, hy.2, e_o hm, bs, O_wNo hm (by omega) hb hR2.2.1 b2.2, xb_mk, Mr38 hm, bs, Mr6 hm, bs, e_o hm, bs, O_obj hm hb, xb_mk, Mr25 hm, bs, Ma25 hm (by omega), bs, hy.2, e_o hm, bs, O_sym hm (by omega) hb, xb_mk, nI_add, Nat.add_assoc, O_byte hm hb hx4, bs, Ms38 hm (by omega), bs]
          have f3 : FR [] [] klA [41] σ2 (sA σ2 38 (upd (gA σ2 38) n (gA σ2 6 (tO q.1 + (yP (tb q.1) q.2 + 4)) &&& nI 255))) := FR_mono (FR_A σ2 38 _) (by decide) (by decide) (by decide) (by decide)
          have g393 : gA (sA σ2 38 (upd (gA σ2 38) n (gA σ2 6 (tO q.1 + (yP (tb q.1) q.2 + 4)) &&& nI 255))) 39 = upd (gA σ 39) n v := by rw [gA_sA, if_neg (by decide)]; exact g39
          generalize sA σ2 38 (upd (gA σ2 38) n (gA σ2 6 (tO q.1 + (yP (tb q.1) q.2 + 4)) &&& nI 255)) = σ3 at *
          have f13 := FR_trans f12 f3
          have hR3 := RWd_FR hR f13 (by decide) (by decide) (by decide)
          have hy3 : gA σ3 25 n = nI q.2 := by rw [f3.2.2.1 25 (by decide)]; exact hy.2
          have hb3 := hR3.1 q.1 b1
          rw [Mr41 hm, bs, e_o hm, bs, O_obj hm hb3, xb_mk, Mr25 hm, bs, Ma25 hm (by omega), bs, hy3, e_o hm, bs, O_ysize hm (by omega) hb3 b2.2, xb_mk, Ms41 hm (by omega), bs]
          have f4 : FR [] [] klA [41] σ3 (sB σ3 41 (vp_updL (gB σ3 41) n (lN (yZ (tb q.1) q.2)))) := FR_mono (FR_B σ3 41 _) (by decide) (by decide) (by decide) (by decide)
          have g394 : gA (sB σ3 41 (vp_updL (gB σ3 41) n (lN (yZ (tb q.1) q.2)))) 39 = upd (gA σ 39) n v := g393
          generalize sB σ3 41 (vp_updL (gB σ3 41) n (lN (yZ (tb q.1) q.2))) = σ4 at *
          have f14 := FR_trans f13 f4
          have hR4 := RWd_FR hR f14 (by decide) (by decide) (by decide)
          have hb4 := hR4.1 q.1 b1
          have hs4 := RSt_FR hs f14 (by decide) (by decide)
          rw [Mr39 hm, bs, e_o hm, bs, q_isSectionNow hm (by omega) hb4 (by omega), xb_mk]
          have e259 : ∀ w, okS w → ∃ σ', f_M_keepLink_259 F (f_M_keepLink_38 F g) m (nI P) (m + 29) (nI n) w (mh m h σ4) = some ((), mh m h σ') ∧ (∀ (Q n : Nat), od[Q]? = some n → okS (gA σ' 39 n)) ∧ FR [] [] klA [41] σ σ' := fun w hw => by
            unfold f_M_keepLink_259 f_M_keepLink_260
            rw [Ms39 hm (by omega), bs, nI_add]
            refine nx _ (FR_trans f14 (FR_mono (FR_A σ4 39 _) (by decide) (by decide) (by decide) (by decide))) (by rw [gA_sA, if_pos rfl, upd_eq]; exact hw) (fun j hj => by rw [gA_sA, if_pos rfl, upd_ne hj, g394, upd_ne hj])
          have hm1 : okS (Int32.ofInt (-1)) := ⟨none, rfl, fun s hs => nomatch hs⟩
          unfold f_M_keepLink_258
          cases en : isN tb q.1 (wNo dr q.1 (tb q.1) q.2) with
          | false => rw [if_pos (show bI false = 0 from rfl)]; exact e259 _ hm1
          | true =>
            have hwo : wNo dr q.1 (tb q.1) q.2 < oS (tb q.1) := by
              unfold isN at en
              rw [Bool.and_eq_true] at en
              exact (of_decide_eq_true en.1).2
            rw [if_neg (show ¬ bI true = 0 by decide), e_o hm, bs, q_stays hm (by omega) hb4 hR4.2.1 hs4 hwo, xb_mk]
            cases sta tb dr on R q.1 (wNo dr q.1 (tb q.1) q.2) with
            | false => rw [if_pos (show bI false = 0 from rfl)]; exact e259 _ hm1
            | true =>
              have hG : oG (tb q.1) (wNo dr q.1 (tb q.1) q.2) ≤ 5 := by unfold oG; repeat (first | omega | split)
              have hsg := sgO_2 (g := oG (tb q.1) (wNo dr q.1 (tb q.1) q.2))
              rw [if_neg (show ¬ bI true = 0 by decide), e_o hm, bs, O_obj hm hb4, xb_mk, e_o hm, bs, O_group hm (by omega) hb4 hwo, xb_mk, q_segmentOf (by omega), xb_mk]
              exact e259 _ ⟨some _, rfl, fun s hs => by have := Option.some.inj hs; omega⟩
    have e68 : ∀ cm : Bool, cm = decide (x.2.1 = 2) → ∃ σ', f_M_keepLink_68 F (f_M_keepLink_38 F g) m (nI P) (nI n) (bI cm) (mh m h σ) = some ((), mh m h σ') ∧ (∀ (Q n : Nat), od[Q]? = some n → okS (gA σ' 39 n)) ∧ FR [] [] klA [41] σ σ' := by
      intro cm hcm
      unfold f_M_keepLink_68
      rw [Mr38 hm, bs, Ms38 hm (by omega), bs]
      have f1 : FR [] [] klA [41] σ (sA σ 38 (upd (gA σ 38) n (nI 16))) := FR_mono (FR_A σ 38 _) (by decide) (by decide) (by decide) (by decide)
      have g39 : gA (sA σ 38 (upd (gA σ 38) n (nI 16))) 39 = gA σ 39 := by rw [gA_sA, if_neg (by decide)]
      generalize sA σ 38 (upd (gA σ 38) n (nI 16)) = σ1 at *
      have e97 : ∀ w, ∃ σ', f_M_keepLink_97 F (f_M_keepLink_38 F g) m (nI P) (nI n) (bI cm) (m + 31) (nI n) w (mh m h σ1) = some ((), mh m h σ') ∧ (∀ (Q n : Nat), od[Q]? = some n → okS (gA σ' 39 n)) ∧ FR [] [] klA [41] σ σ' := by
        intro w
        unfold f_M_keepLink_97 f_M_keepLink_119
        rw [Ms41 hm (by omega), bs]
        have f2 : FR [] [] klA [41] σ1 (sB σ1 41 (vp_updL (gB σ1 41) n w)) := FR_mono (FR_B σ1 41 _) (by decide) (by decide) (by decide) (by decide)
        have g392 : gA (sB σ1 41 (vp_updL (gB σ1 41) n w)) 39 = gA σ 39 := g39
        generalize sB σ1 41 (vp_updL (gB σ1 41) n w) = σ2 at *
        have f12 := FR_trans f1 f2
        have hm1 : okS (Int32.ofInt (-1)) := ⟨none, rfl, fun s hs => nomatch hs⟩
        rw [Mr39 hm, bs]
        cases ecm : cm with
        | false =>
          rw [if_pos (show bI false = 0 from rfl)]
          exact e120 σ2 _ false f12 g392 hm1 (ecm ▸ hcm)
        | true =>
          rw [if_neg (show ¬ bI true = 0 by decide), e_o hm, bs, q_isCommon (on := on) (rn := rn) hm (RL_FR hR.2.2 f12 (by decide) (by decide) (by decide)) hWP.2.1 (RO_FR ho f12 (by decide) (by decide)) hx hn (RRn_FR hc f12 (by decide) (by decide)), xb_mk]
          cases cB xs on rn n with
          | false => rw [if_pos (show bI false = 0 from rfl)]; exact e120 σ2 _ true f12 g392 hm1 (ecm ▸ hcm)
          | true => rw [if_neg (show ¬ bI true = 0 by decide)]; exact e120 σ2 _ true f12 g392 ⟨some 2, rfl, fun s hs => by have := Option.some.inj hs; omega⟩ (ecm ▸ hcm)
      rw [Mr41 hm, bs]
      cases ecm : cm with
      | false => rw [ecm] at e97; rw [if_pos (show bI false = 0 from rfl)]; exact e97 _
      | true => rw [ecm] at e97; rw [if_neg (show ¬ bI true = 0 by decide), Mr26 hm, bs, Ma26 hm (by omega), bs]; exact e97 _
    have h4 := (hWP.2.1 n x hxn).1
    unfold f_M_keepLink_38
    rw [Mg48 hm, bs, ho.1, if_neg (nI_ge (by omega) (by omega)), Mr49 hm, bs, Ma49 hm (by omega), bs, ho.2.2 P n hx, Mr23 hm, bs, Ma23 hm (by omega), bs, rr.1]
    by_cases c2 : x.2.1 = 2
    · rw [if_pos (by rw [c2])]
      exact e68 true (by rw [decide_eq_true c2])
    · rw [if_neg (fun q => c2 ((nI_eq (by omega) (by decide)).mp q))]
      exact e68 false (by rw [decide_eq_false c2])
theorem q_keepLink {σ : px_S} {fe : Nat} (hm : m ≤ h.length) (hF : 65540 < F) (hWP : WP T tb dr xs) (hod : ∀ d, d ∈ od → d < xs.length) (hoS : ∀ d, d ∈ od → stN xs d = 1 ∨ stN xs d = 2 ∨ stN xs d = 3) (hR : RWd σ T tO tn tb dr xs) (ho : RO σ od) (hc : RRn σ xs on rn) (hs : RSt σ on R) (hfe : fe ≤ 65536) (h4 : gI σ 4 = nI fe) (h42 : ∀ k, isB (gA σ 42 k)) : ∃ σ', f_M_keepLink F m (mh m h σ) = some ((), mh m h σ') ∧ gI σ' 43 = nI fe ∧ (∀ k, isB (gA σ' 42 k)) ∧ (∀ (Q n : Nat), od[Q]? = some n → okS (gA σ' 39 n)) ∧ FR [43] [] [38, 39, 42] [41] σ σ' := by
  have hol := ho.2.1
  have f1 := FR_I σ 43 (nI fe)
  have g43 : gI (sI σ 43 (nI fe)) 43 = nI fe := by rw [gI_sI, if_pos rfl]
  have p43 : xpI (mh m h σ) 12 43 m (nI fe) = some (mh m h (sI σ 43 (nI fe))) := Mp43 hm _
  generalize sI σ 43 (nI fe) = σ1 at *
  obtain ⟨σ2, a1, a2, a3⟩ := q_kL_10 (F := F) (h := h) hm hfe fe 0 F σ1 (by omega) (by omega) ((f1.1 4 (by decide)).trans h4) (by rw [f1.2.2.1 42 (by decide)]; exact h42)
  have f2 : FR [43] [] [38, 39, 42] [41] σ σ2 := FR_trans (FR_mono f1 (by decide) (by decide) (by decide) (by decide)) (FR_mono a3 (by decide) (by decide) (by decide) (by decide))
  obtain ⟨σ3, b1, b2, b3⟩ := q_kL_38 (F := F) (h := h) (on := on) (rn := rn) (R := R) hm hF hWP hod hoS od.length 0 F σ2 (by omega) (by omega) (RWd_FR hR f2 (by decide) (by decide) (by decide)) (RO_FR ho f2 (by decide) (by decide)) (RRn_FR hc f2 (by decide) (by decide)) (RSt_FR hs f2 (by decide) (by decide)) (fun Q n hQ => absurd hQ (Nat.not_lt_zero Q))
  refine ⟨σ3, ?_, ?_, ?_, b2, FR_trans f2 (FR_mono b3 (by decide) (by decide) (by decide) (by decide))⟩
  · unfold f_M_keepLink
    rw [Mg4 hm, bs, h4, p43, bs, a1]
    exact b1
  · rw [b3.1 43 (by decide), a3.1 43 (by decide)]; exact g43
  · rw [b3.2.2.1 42 (by decide)]; exact a2
end MKL
end
