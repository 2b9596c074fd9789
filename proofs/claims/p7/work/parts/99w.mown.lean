/-! own, ownAddress, the names' addresses in the reference -/
/-- the address of what symbol k of object t defines by itself -/
def ownV (B : Nat → Nat) (pf : List Nat) (tO : Nat → Nat) (tb : Nat → Nat → Nat) (dr : Nat → Bool) (sy : Nat → Nat → Bool) (pp : Nat) (ad : Nat → Nat) (t k : Nat) : Int64 :=
  if wNo dr t (tb t) k = 0 then lN 0 else if wNo dr t (tb t) k = 65521 ∨ oK (tb t) (wNo dr t (tb t) k) = false then lN (yV (tb t) k) else if sy t (wNo dr t (tb t) k) = false then lN 0 else if oStr (tb t) (wNo dr t (tb t) k) = true then lN (pp + baN B pf (tO t + oP (tb t) (wNo dr t (tb t) k)) (oZ (tb t) (wNo dr t (tb t) k)) (yV (tb t) k)) else lN (ad (24 * t + wNo dr t (tb t) k) + yV (tb t) k)
/-- the place of the linker's own name -/
def ownK (te bg2 fb2 bss mb2 k : Nat) : Nat := if k = 1 then te else if k = 2 then bg2 + fb2 else if k = 3 then bss else bg2 + mb2
/-- what is laid is what stays -/
def llS (T : Nat) (tb : Nat → Nat → Nat) (sy : Nat → Nat → Bool) (ll : List Nat) : Prop := ∀ t i, t < T → 1 ≤ i → i < oS (tb t) → sy t i = true → 24 * t + i ∈ ll
section MOV
variable {F m T t k : Nat} {h : px_H} {σ : px_S} {B : Nat → Nat} {tb : Nat → Nat → Nat} {tO tn tq : Nat → Nat} {dr : Nat → Bool} {xs : px_NL} {ll : List Nat} {on : Bool} {R : Nat → Bool} {ad : Nat → Nat} {pp : Nat}
theorem q_own (hm : m ≤ h.length) (hF : 65540 < F) (hW : RWp σ T tO tn tq tb ll B) (hl : llP T tb ll) (hn : ndB B (nd0 B tO tb ll)) (hr : RPo σ B (nd0 B tO tb ll) (pf0 B tO tb ll)) (hI : PIn B (nd0 B tO tb ll) (pf0 B tO tb ll)) (hd : RDr σ dr) (hs : RSt σ on R) (hS : llS T tb (sta tb dr on R) ll) (h90 : gJ σ 90 = lN pp) (hA : ∀ x, x ∈ ll → oStr (tb (x / 24)) (x % 24) = false → gB σ 58 x = lN (ad x)) (ht : t < T) (h1 : 1 ≤ k) (hk : k < oM (tb t)) (hc : yW (tb t) k ≠ 65522) : f_M_own F m (nI t) (nI k) (mh m h σ) = some (ownV B (pf0 B tO tb ll) tO tb dr (sta tb dr on R) pp ad t k, mh m h σ) := by
  have hb := hW.1 t ht
  have ht64 := hb.1.1
  have hSS := (OB_w hb).1.2.1.2
  have hV : yV (tb t) k < 2 ^ 64 := le_lt (OB_lt hb) _ 8
  have hwl := wNo_lt (k := k) (dr := dr) hb
  have hy := OB_y hb h1 hk
  have hwS : wNo dr t (tb t) k ≠ 0 → wNo dr t (tb t) k ≠ 65521 → wNo dr t (tb t) k < oS (tb t) := by
    intro c1 c2
    unfold yOK at hy
    have hy2 := (of_decide_eq_true hy).2.1
    have : wNo dr t (tb t) k = 0 ∨ wNo dr t (tb t) k = yW (tb t) k := by unfold wNo; split; exact Or.inl rfl; exact Or.inr rfl
    rcases this with e | e
    · exact absurd e c1
    · rw [e] at c1 c2 ⊢
      rcases hy2 with q | q | q | q
      · exact absurd q c1
      · exact absurd q c2
      · exact absurd q hc
      · exact q
  unfold f_M_own f_M_own_39 ownV
  rw [e_o hm, bs, O_obj hm hb, xb_mk, e_o hm, bs, O_wNo hm (by omega) hb hd hk, xb_mk]
  generalize wNo dr t (tb t) k = w at *
  by_cases c1 : w = 0
  · rw [if_pos (by rw [c1]; rfl), if_pos c1]
  · rw [if_neg (show ¬ nI w = 0 from fun q => c1 ((nI_eq (b := 0) (by omega) (by decide)).mp q)), if_neg c1]
    by_cases c2 : w = 65521
    · rw [if_pos (by rw [c2]; rfl), if_pos (Or.inl c2), e_o hm, bs, O_value hm (by omega) hb hk, xb_mk]
    · have hwo := hwS c1 c2
      rw [if_neg (show ¬ nI w = (65521 : Int32) from fun q => c2 ((nI_eq (b := 65521) (by omega) (by decide)).mp q)), e_o hm, bs, O_kept hm (by omega) hb hwo, xb_mk]
      cases ek : oK (tb t) w with
      | false => rw [if_pos (show bI false = 0 from rfl), if_pos (Or.inr rfl), e_o hm, bs, O_value hm (by omega) hb hk, xb_mk]
      | true =>
        rw [if_neg (show ¬ bI true = 0 by decide), if_neg (fun q => q.elim c2 (fun q => nomatch q)), e_o hm, bs, q_stays hm (by omega) hb hd hs hwo, xb_mk]
        cases es : sta tb dr on R t w with
        | false => rw [if_pos (show bI false = 0 from rfl), if_pos rfl]
        | true =>
          have hin := hS t w ht (by omega) hwo es
          have e1 : (24 * t + w) / 24 = t := by omega
          have e2 : (24 * t + w) % 24 = w := by omega
          rw [if_neg (show ¬ bI true = 0 by decide), if_neg (by decide), e_o hm, bs, q_isStrings hm (by omega) hb hwo, xb_mk]
          cases eo : oStr (tb t) w with
          | false =>
            have hx := hA _ hin (by rw [e1, e2]; exact eo)
            rw [if_pos (show bI false = 0 from rfl), if_neg (by decide), Mr58 hm, bs, pk_mul, nI_add, Ma58 hm (by omega), bs, hx, e_o hm, bs, O_value hm (by omega) hb hk, xb_mk, lN_add]
          | true =>
            rw [if_neg (show ¬ bI true = 0 by decide), if_pos rfl, e_o hm, bs, O_value hm (by omega) hb hk, xb_mk, e_o hm, bs, q_byteAddress hm hF hW hl hn hr hI hin (by omega) eo hV h90, xb_mk]
theorem q_ownAddress {te bg2 fb2 bss mb2 o : Nat} (hm : m ≤ h.length) (ho : o < 2 ^ 31) (h80 : gJ σ 80 = lN te) (h61 : gB σ 61 2 = lN bg2) (h62 : gB σ 62 2 = lN fb2) (h81 : gJ σ 81 = lN bss) (h63 : gB σ 63 2 = lN mb2) : f_M_ownAddress F m (nI o) (mh m h σ) = some (lN (ownK te bg2 fb2 bss mb2 o), mh m h σ) := by
  unfold f_M_ownAddress f_M_ownAddress_58 ownK
  by_cases c1 : o = 1
  · rw [if_pos (by rw [c1]), if_pos c1, Mg80 hm, bs, h80]
  · rw [if_neg (fun q => c1 ((nI_eq ho (by decide)).mp q)), if_neg c1]
    by_cases c2 : o = 2
    · rw [if_pos (by rw [c2]), if_pos c2, Mr61 hm, bs, Ma61 hm (by decide), bs, h61, Mr62 hm, bs, Ma62 hm (by decide), bs, h62, lN_add]
    · rw [if_neg (fun q => c2 ((nI_eq ho (by decide)).mp q)), if_neg c2]
      by_cases c3 : o = 3
      · rw [if_pos (by rw [c3]), if_pos c3, Mg81 hm, bs, h81]
      · rw [if_neg (fun q => c3 ((nI_eq ho (by decide)).mp q)), if_neg c3, Mr61 hm, bs, Ma61 hm (by decide), bs, h61, Mr63 hm, bs, Ma63 hm (by decide), bs, h63, lN_add]
/-- the address of a name -/
def naV (OV : Nat → Nat → Int64) (OK : Nat → Nat) (na : Nat → Nat) (n : Nat) (r : px_NR) : Int64 := if r.1 = 2 then lN (na n) else if r.1 = 4 then lN (OK r.2.2.1) else if r.1 = 0 then lN 0 else match r.2.2.2.1 with
  | none => r.2.2.2.2.1
  | some q => OV q.1 q.2
theorem q_ly_173 {te bg2 fb2 bss mb2 : Nat} {na : Nat → Nat} (hm : m ≤ h.length) (hF : 65540 < F) (hWP : WP T tb dr xs) (hown : ∀ (i : Nat) (x : List Nat × px_NR), xs[i]? = some x → x.2.2.2.1 < 2 ^ 31) (hl : llP T tb ll) (hn : ndB B (nd0 B tO tb ll)) (hI : PIn B (nd0 B tO tb ll) (pf0 B tO tb ll)) (hS : llS T tb (sta tb dr on R) ll) : ∀ (c n f : Nat) (σ : px_S), n + c = xs.length → c < f → RL σ xs → RWp σ T tO tn tq tb ll B → RPo σ B (nd0 B tO tb ll) (pf0 B tO tb ll) → RDr σ dr → RSt σ on R → gJ σ 90 = lN pp → (∀ x, x ∈ ll → oStr (tb (x / 24)) (x % 24) = false → gB σ 58 x = lN (ad x)) → gJ σ 80 = lN te → gB σ 61 2 = lN bg2 → gB σ 62 2 = lN fb2 → gJ σ 81 = lN bss → gB σ 63 2 = lN mb2 → (∀ j, n ≤ j → j < xs.length → gB σ 29 j = lN (na j)) → (∀ (j : Nat) (x : List Nat × px_NR), j < n → xs[j]? = some x → gB σ 29 j = naV (ownV B (pf0 B tO tb ll) tO tb dr (sta tb dr on R) pp ad) (ownK te bg2 fb2 bss mb2) na j x.2) → ∃ σ', f_M_layout_173 F f m (nI n) (mh m h σ) = some ((), mh m h σ') ∧ (∀ (j : Nat) (x : List Nat × px_NR), xs[j]? = some x → gB σ' 29 j = naV (ownV B (pf0 B tO tb ll) tO tb dr (sta tb dr on R) pp ad) (ownK te bg2 fb2 bss mb2) na j x.2) ∧ FR [] [] [] [29] σ σ' := by
  intro c
  induction c with
  | zero =>
    intro n f σ hnc hf hr hW hpo hd hs h90 hA h80 h61 h62 h81 h63 hA1 hA2
    obtain ⟨f, rfl⟩ : ∃ x, f = x + 1 := ⟨f - 1, by omega⟩
    have hxl : xs.length ≤ 4096 := by have := hr.1.2.1; rw [List.length_map] at this; exact this
    have h20 := hr.1.1
    rw [List.length_map] at h20
    unfold f_M_layout_173 f_M_layout_281
    rw [Mg20 hm, bs, h20, if_pos (nI_le (by omega) (by omega))]
    exact ⟨σ, rfl, fun j x hx => hA2 j x (by have := (List.getElem?_eq_some_iff.mp hx).1; omega) hx, FR_refl σ⟩
  | succ c ih =>
    intro n f σ hnc hf hr hW hpo hd hs h90 hA h80 h61 h62 h81 h63 hA1 hA2
    obtain ⟨f, rfl⟩ : ∃ x, f = x + 1 := ⟨f - 1, by omega⟩
    have hxl : xs.length ≤ 4096 := by have := hr.1.2.1; rw [List.length_map] at this; exact this
    have h20 := hr.1.1
    rw [List.length_map] at h20
    have hnl : n < xs.length := by omega
    obtain ⟨x, hx⟩ : ∃ x, xs[n]? = some x := ⟨xs[n], List.getElem?_eq_getElem hnl⟩
    have rr := hr.2 n x hx
    have h4 := (hWP.2.1 n x hx).1
    have hby := hWP.2.2.1 n x hx
    have fin : ∀ v, v = naV (ownV B (pf0 B tO tb ll) tO tb dr (sta tb dr on R) pp ad) (ownK te bg2 fb2 bss mb2) na n x.2 → ∃ σ', f_M_layout_274 F (f_M_layout_173 F f) m (nI n) (m + 21) (nI n) v (mh m h σ) = some ((), mh m h σ') ∧ (∀ (j : Nat) (x : List Nat × px_NR), xs[j]? = some x → gB σ' 29 j = naV (ownV B (pf0 B tO tb ll) tO tb dr (sta tb dr on R) pp ad) (ownK te bg2 fb2 bss mb2) na j x.2) ∧ FR [] [] [] [29] σ σ' := by
      intro v hv
      unfold f_M_layout_274
      rw [Ms29 hm (by omega), bs, nI_add]
      have f1 := FR_B σ 29 (vp_updL (gB σ 29) n v)
      have g29 : gB (sB σ 29 (vp_updL (gB σ 29) n v)) 29 = vp_updL (gB σ 29) n v := by rw [gB_sB, if_pos rfl]
      generalize sB σ 29 (vp_updL (gB σ 29) n v) = σ1 at *
      obtain ⟨σ2, b1, b2, b3⟩ := ih (n + 1) f σ1 (by omega) (by omega) (RL_FR hr f1 (by decide) (by decide) (by decide)) (RWp_FR hW f1 (by decide) (by decide)) (RPo_FR hpo f1 (by decide) (by decide)) (fun i hi => by rw [f1.2.2.1 65 (by decide)]; exact hd i hi) (RSt_FR hs f1 (by decide) (by decide)) ((f1.2.1 90 (by decide)).trans h90) (fun y hy he => by rw [f1.2.2.2 58 (by decide)]; exact hA y hy he) ((f1.2.1 80 (by decide)).trans h80) (by rw [f1.2.2.2 61 (by decide)]; exact h61) (by rw [f1.2.2.2 62 (by decide)]; exact h62) ((f1.2.1 81 (by decide)).trans h81) (by rw [f1.2.2.2 63 (by decide)]; exact h63) (fun j h1 h2 => by rw [g29, vp_ne (by omega)]; exact hA1 j (by omega) h2) (fun j y hj hy => by
        rw [g29]
        by_cases e : j = n
        · rw [e] at hy ⊢
          rw [vp_eq, hv]
          rw [hx] at hy
          rw [Option.some.inj hy]
        · rw [vp_ne e]; exact hA2 j y (by omega) hy)
      exact ⟨σ2, b1, b2, FR_trans f1 b3⟩
    have gv := q_isGiven (F := F) (σ := σ) hm hr hWP.2.1 hx (fun q hq => by
      have := hby
      unfold byP at this
      rw [hq] at this
      have := this.1
      have := hWP.1
      omega)
    have r73 : gA σ 73 n = nI x.2.2.2.1 := rr.2.2.1
    unfold f_M_layout_173
    rw [Mg20 hm, bs, h20, if_neg (nI_ge (by omega) (by omega)), Mr29 hm, bs, Mr23 hm, bs, Ma23 hm (by omega), bs, rr.1]
    by_cases c2 : x.2.1 = 2
    · rw [if_pos (by rw [c2]), bs, Ma29 hm (by omega), bs, hA1 n (Nat.le_refl _) hnl]
      exact fin _ (by unfold naV; rw [if_pos c2])
    · rw [if_neg (fun q => c2 ((nI_eq (by omega) (by decide)).mp q)), bs, Ma23 hm (by omega), bs, rr.1]
      by_cases c4 : x.2.1 = 4
      · rw [if_pos (by rw [c4]), Mr73 hm, bs, Ma73 hm (by omega), bs, r73, e_o hm, bs, q_ownAddress hm (hown n x hx) h80 h61 h62 h81 h63, xb_mk]
        exact fin _ (by unfold naV; rw [if_neg c2, if_pos c4])
      · rw [if_neg (fun q => c4 ((nI_eq (by omega) (by decide)).mp q)), bs, Ma23 hm (by omega), bs, rr.1]
        by_cases c0 : x.2.1 = 0
        · rw [if_pos (by rw [c0]; rfl)]
          exact fin _ (by unfold naV; rw [if_neg c2, if_neg c4, if_pos c0])
        · rw [if_neg (show ¬ nI x.2.1 = 0 from fun q => c0 ((nI_eq (b := 0) (by omega) (by decide)).mp q)), e_o hm, bs, gv, xb_mk]
          cases eq : x.2.2.2.2.1 with
          | none =>
            have hb0 := hby
            unfold byP at hb0
            rw [eq] at hb0
            have hb0 : x.2.1 = 0 ∨ x.2.1 = 3 ∨ x.2.1 = 4 := hb0
            have c3 : x.2.1 = 3 := by omega
            have r30 : gB σ 30 n = x.2.2.2.2.2.1 := rr.2.2.2.2.1
            rw [decide_eq_true c3, if_neg (by decide), Mr30 hm, bs, Ma30 hm (by omega), bs, r30]
            exact fin _ (by unfold naV; rw [if_neg c2, if_neg c4, if_neg c0, eq])
          | some q =>
            have hb0 := hby
            unfold byP at hb0
            rw [eq] at hb0
            obtain ⟨b1, b2, b3, b4, b5, b6⟩ := hb0
            have hy := rr.2.2.2.1
            rw [eq] at hy
            have hy : gA σ 24 n = nI q.1 ∧ gA σ 25 n = nI q.2 := hy
            have hc : yW (tb q.1) q.2 ≠ 65522 := fun e => by
              have hw : wNo dr q.1 (tb q.1) q.2 = 65522 := by
                unfold wNo
                rw [e, if_neg (fun z => absurd z.2.1 (by decide))]
              unfold sOf at b4
              rw [hw, if_neg (by decide), if_pos rfl] at b4
              exact c2 b4.symm
            rw [show (some q).isNone = false from rfl, Bool.and_false, if_pos (show bI false = 0 from rfl), Mr24 hm, bs, Ma24 hm (by omega), bs, hy.1, Mr25 hm, bs, Ma25 hm (by omega), bs, hy.2, e_o hm, bs, q_own hm hF hW hl hn hpo hI hd hs hS h90 hA b1 b2.1 b2.2 hc, xb_mk]
            exact fin _ (by unfold naV; rw [if_neg c2, if_neg c4, if_neg c0, eq])
end MOV
