/-! stays, lay of the reference -/
def RSt (σ : px_S) (on : Bool) (R : Nat → Bool) : Prop := gI σ 68 = bI on ∧ (on = true → ∀ i, i < 1536 → gA σ 66 i = bI (R i))
theorem RSt_FR {σ σ' : px_S} {I J A B : List Nat} {on : Bool} {R : Nat → Bool} (h : RSt σ on R) (f : FR I J A B σ σ') (h1 : 68 ∉ I) (h2 : 66 ∉ A) : RSt σ' on R := ⟨(f.1 68 h1).trans h.1, fun e i hi => by rw [f.2.2.1 66 h2]; exact h.2 e i hi⟩
/-- section i of object t stays -/
def sta (tb : Nat → Nat → Nat) (dr : Nat → Bool) (on : Bool) (R : Nat → Bool) (t i : Nat) : Bool := oK (tb t) i && (!dr (24 * t + i) && (!on || R (24 * t + i)))
/-- the members taken -/
def RQ (σ : px_S) (T : Nat) (tq : Nat → Nat) : Prop := ∀ t, t < T → tq t < 64 ∧ gA σ 17 t = nI (tq t) ∧ ∃ a, gA σ 11 (tq t / 8) = bI a ∧ (a = false → tq t % 8 = 0)
theorem RQ_FR {σ σ' : px_S} {I J A B : List Nat} {T : Nat} {tq : Nat → Nat} (h : RQ σ T tq) (f : FR I J A B σ σ') (h1 : 17 ∉ A) (h2 : 11 ∉ A) : RQ σ' T tq := fun t ht => by rw [f.2.2.1 17 h1, f.2.2.1 11 h2]; exact h t ht
def gOf (u : Nat) : Nat := if u < 2 then u else if u < 4 then u + 2 else u - 2
def lay3 (tb : Nat → Nat → Nat) (sy : Nat → Nat → Bool) (g t i : Nat) (l : List Nat) : List Nat := if sy t i = true ∧ oG (tb t) i = g then l ++ [24 * t + i] else l
def lay2 (tb : Nat → Nat → Nat) (sy : Nat → Nat → Bool) (g t : Nat) (l : List Nat) : List Nat := itr (lay3 tb sy g t) 1 (oS (tb t) - 1) l
def lay1 (T : Nat) (tb : Nat → Nat → Nat) (sy : Nat → Nat → Bool) (u : Nat) (l : List Nat) : List Nat := itr (lay2 tb sy (gOf u)) 0 T l
def layL (T : Nat) (tb : Nat → Nat → Nat) (sy : Nat → Nat → Bool) : List Nat := itr (lay1 T tb sy) 0 6 []
/-- what is laid so far: up to turn u, place p -/
def LI (T : Nat) (tb : Nat → Nat → Nat) (sy : Nat → Nat → Bool) (u p : Nat) (l : List Nat) : Prop := l.Nodup ∧ ∀ x, x ∈ l → (x < 24 * T ∧ 1 ≤ x % 24 ∧ x % 24 < oS (tb (x / 24)) ∧ sy (x / 24) (x % 24) = true) ∧ ((∃ v, v < u ∧ oG (tb (x / 24)) (x % 24) = gOf v) ∨ oG (tb (x / 24)) (x % 24) = gOf u ∧ x < p)
theorem LI_p {T : Nat} {tb : Nat → Nat → Nat} {sy : Nat → Nat → Bool} {u p p' : Nat} {l : List Nat} (h : LI T tb sy u p l) (hp : p ≤ p') : LI T tb sy u p' l := ⟨h.1, fun x hx => ⟨(h.2 x hx).1, (h.2 x hx).2.elim Or.inl (fun q => Or.inr ⟨q.1, by omega⟩)⟩⟩
theorem LI_u {T : Nat} {tb : Nat → Nat → Nat} {sy : Nat → Nat → Bool} {u p p' : Nat} {l : List Nat} (h : LI T tb sy u p l) : LI T tb sy (u + 1) p' l := ⟨h.1, fun x hx => ⟨(h.2 x hx).1, Or.inl ((h.2 x hx).2.elim (fun ⟨v, h1, h2⟩ => ⟨v, by omega, h2⟩) (fun q => ⟨u, Nat.lt_succ_self u, q.1⟩))⟩⟩
theorem LI_3 {T : Nat} {tb : Nat → Nat → Nat} {sy : Nat → Nat → Bool} {u t i : Nat} {l : List Nat} (hu : u < 6) (ht : t < T) (h1 : 1 ≤ i) (hi : i < oS (tb t)) (hS : oS (tb t) ≤ 24) (h : LI T tb sy u (24 * t + i) l) : LI T tb sy u (24 * t + (i + 1)) (lay3 tb sy (gOf u) t i l) := by
  unfold lay3
  by_cases c : sy t i = true ∧ oG (tb t) i = gOf u
  · rw [if_pos c]
    have e1 : (24 * t + i) / 24 = t := by omega
    have e2 : (24 * t + i) % 24 = i := by omega
    have hn : 24 * t + i ∉ l := fun q => by
      have := (h.2 _ q).2
      rw [e1, e2, c.2] at this
      rcases this with ⟨v, v1, v2⟩ | ⟨_, v2⟩
      · unfold gOf at v2
        repeat (first | omega | split at v2)
      · omega
    refine ⟨?_, fun x hx => ?_⟩
    · rw [List.nodup_append]
      exact ⟨h.1, List.nodup_cons.mpr ⟨List.not_mem_nil, List.nodup_nil⟩, fun x hx y hy e => hn (by rw [List.mem_singleton.mp hy] at e; exact e ▸ hx)⟩
    · rcases List.mem_append.mp hx with hx | hx
      · exact (LI_p h (by omega)).2 x hx
      · rw [List.mem_singleton.mp hx, e1, e2]
        exact ⟨⟨by omega, h1, hi, c.1⟩, Or.inr ⟨c.2, by omega⟩⟩
  · rw [if_neg c]
    exact LI_p h (by omega)
theorem LI_len {T : Nat} {tb : Nat → Nat → Nat} {sy : Nat → Nat → Bool} {u p : Nat} {l : List Nat} (hT : T ≤ 64) (h : LI T tb sy u p l) : l.length ≤ 1536 := nodup_le 0 1536 l h.1 (fun x hx => by have := (h.2 x hx).1.1; omega)
/-- the reference's rows of what is laid -/
def RLa (σ : px_S) (tq : Nat → Nat) (tb : Nat → Nat → Nat) (l : List Nat) : Prop := gI σ 50 = nI l.length ∧ ∀ p x, l[p]? = some x → gA σ 51 p = nI (x / 24) ∧ gA σ 52 p = nI (tq (x / 24) / 8) ∧ gA σ 53 p = nI (tq (x / 24) % 8) ∧ gA σ 54 p = nI (x % 24) ∧ gA σ 55 p = nI (oG (tb (x / 24)) (x % 24)) ∧ gA σ 56 p = nI (oZ (tb (x / 24)) (x % 24))
theorem RLa_FR {σ σ' : px_S} {I J A B : List Nat} {tq : Nat → Nat} {tb : Nat → Nat → Nat} {l : List Nat} (h : RLa σ tq tb l) (f : FR I J A B σ σ') (h1 : 50 ∉ I) (hA : ∀ k, k ∈ [51, 52, 53, 54, 55, 56] → k ∉ A) : RLa σ' tq tb l := ⟨(f.1 50 h1).trans h.1, fun p x hx => by rw [f.2.2.1 51 (hA 51 (by decide)), f.2.2.1 52 (hA 52 (by decide)), f.2.2.1 53 (hA 53 (by decide)), f.2.2.1 54 (hA 54 (by decide)), f.2.2.1 55 (hA 55 (by decide)), f.2.2.1 56 (hA 56 (by decide))]; exact h.2 p x hx⟩
abbrev laA : List Nat := [51, 52, 53, 54, 55, 56]
section MLY
variable {F m T t i : Nat} {h : px_H} {σ : px_S} {dr : Nat → Bool} {tb : Nat → Nat → Nat} {tO tn tq : Nat → Nat} {xs : px_NL} {on : Bool} {R : Nat → Bool}
theorem q_stays (hm : m ≤ h.length) (hF : 24 < F) (hb : OB σ t (tO t) (tn t) (tb t)) (hd : RDr σ dr) (hs : RSt σ on R) (hi : i < oS (tb t)) : f_M_stays F m (nI t) (nI i) (mh m h σ) = some (bI (sta tb dr on R t i), mh m h σ) := by
  have ht := hb.1.1
  have hS := (OB_w hb).1.2.1.2
  unfold f_M_stays f_M_stays_52 f_M_stays_48 f_M_stays_53 sta
  rw [e_o hm, bs, O_obj hm hb, xb_mk, e_o hm, bs, O_kept hm hF hb hi, xb_mk, Mr65 hm, bs, pk_mul, nI_add, Ma65 hm (by omega), bs, hd _ (by omega), Mg68 hm, bs, hs.1, Mr66 hm, bs, Ma66 hm (by omega), bs]
  cases oK (tb t) i with
  | false => rw [if_pos (show bI false = 0 from rfl), xz_0]; rfl
  | true =>
    rw [if_neg (show ¬ bI true = 0 by decide)]
    cases dr (24 * t + i) with
    | true => rw [if_neg (show ¬ bI true = 0 by decide), xz_0]; rfl
    | false =>
      rw [if_pos (show bI false = 0 from rfl)]
      cases on with
      | false => rw [if_pos (show bI false = 0 from rfl), xz_1]; rfl
      | true =>
        rw [if_neg (show ¬ bI true = 0 by decide), hs.2 rfl _ (by omega)]
        cases R (24 * t + i) with
        | false => rw [if_pos (show bI false = 0 from rfl), xz_0]; rfl
        | true => rw [if_neg (show ¬ bI true = 0 by decide), xz_1]; rfl
end MLY
section MLZ
variable {F m T t : Nat} {h : px_H} {dr : Nat → Bool} {tb : Nat → Nat → Nat} {tO tn tq : Nat → Nat} {on : Bool} {R : Nat → Bool} {k7 : Nat → Int32 → px_H → Option (Unit × px_H)} {k39 : Nat → Int32 → Int32 → Int32 → px_H → Option (Unit × px_H)}
/-- what lay reads -/
def RWl (σ : px_S) (T : Nat) (tO tn tq : Nat → Nat) (tb : Nat → Nat → Nat) (dr : Nat → Bool) (on : Bool) (R : Nat → Bool) : Prop := (∀ t, t < T → OB σ t (tO t) (tn t) (tb t)) ∧ RDr σ dr ∧ RSt σ on R ∧ RQ σ T tq ∧ gI σ 14 = nI T
theorem RWl_FR {σ σ' : px_S} {I J A B : List Nat} (hh : RWl σ T tO tn tq tb dr on R) (f : FR I J A B σ σ') (hI : 14 ∉ I ∧ 68 ∉ I) (hA : ∀ k, k ∈ [6, 9, 11, 17, 65, 66] → k ∉ A) : RWl σ' T tO tn tq tb dr on R :=
  ⟨fun t ht => OB_FR (hh.1 t ht) f ⟨hA 6 (by decide), hA 9 (by decide), hA 17 (by decide)⟩, fun i hi => by rw [f.2.2.1 65 (hA 65 (by decide))]; exact hh.2.1 i hi, RSt_FR hh.2.2.1 f hI.2 (hA 66 (by decide)), RQ_FR hh.2.2.2.1 f (hA 17 (by decide)) (hA 11 (by decide)), (f.1 14 hI.1).trans hh.2.2.2.2⟩
theorem q_lay_57 {u : Nat} (hm : m ≤ h.length) (hF : 65536 < F) (hT : T ≤ 64) (hu : u < 6) (ht : t < T) : ∀ (c i g : Nat) (σ : px_S) (l : List Nat), 1 ≤ i → i + c = oS (tb t) → c < g → RWl σ T tO tn tq tb dr on R → RLa σ tq tb l → LI T tb (sta tb dr on R) u (24 * t + i) l → ∃ σ', f_M_lay_57 F k7 k39 g m (nI u) (nI (gOf u)) (nI t) (nI (tO t)) (nI i) (mh m h σ) = k39 m (nI u) (nI (gOf u)) (nI (t + 1)) (mh m h σ') ∧ RLa σ' tq tb (itr (lay3 tb (sta tb dr on R) (gOf u) t) i c l) ∧ LI T tb (sta tb dr on R) u (24 * t + oS (tb t)) (itr (lay3 tb (sta tb dr on R) (gOf u) t) i c l) ∧ FR [50] [] laA [] σ σ' := by
  intro c
  induction c with
  | zero =>
    intro i g σ l h1 hi hg hR hL hI
    obtain ⟨g, rfl⟩ : ∃ x, g = x + 1 := ⟨g - 1, by omega⟩
    have hb := hR.1 t ht
    have hS := (OB_w hb).1.2.1.2
    unfold f_M_lay_57 f_M_lay_215
    rw [e_o hm, bs, O_sec hm (by omega) hb, xb_mk, if_pos (nI_le (by omega) (by omega)), nI_add]
    exact ⟨σ, rfl, hL, LI_p hI (by omega), FR_refl σ⟩
  | succ c ih =>
    intro i g σ l h1 hi hg hR hL hI
    obtain ⟨g, rfl⟩ : ∃ x, g = x + 1 := ⟨g - 1, by omega⟩
    have hb := hR.1 t ht
    have hS := (OB_w hb).1.2.1.2
    have hw := OB_w hb
    have hiS : i < oS (tb t) := by omega
    have hI3 := LI_3 hu ht h1 hiS hS hI
    have step : ∀ σ1 l1, FR [50] [] laA [] σ σ1 → RLa σ1 tq tb l1 → lay3 tb (sta tb dr on R) (gOf u) t i l = l1 → ∃ σ', f_M_lay_57 F k7 k39 g m (nI u) (nI (gOf u)) (nI t) (nI (tO t)) (nI (i + 1)) (mh m h σ1) = k39 m (nI u) (nI (gOf u)) (nI (t + 1)) (mh m h σ') ∧ RLa σ' tq tb (itr (lay3 tb (sta tb dr on R) (gOf u) t) i (c + 1) l) ∧ LI T tb (sta tb dr on R) u (24 * t + oS (tb t)) (itr (lay3 tb (sta tb dr on R) (gOf u) t) i (c + 1) l) ∧ FR [50] [] laA [] σ σ' := by
      intro σ1 l1 a1 a2 a3
      rw [a3] at hI3
      obtain ⟨σ', j1, j2, j3, j4⟩ := ih (i + 1) g σ1 l1 (by omega) (by omega) (by omega) (RWl_FR hR a1 (by decide) (by decide)) a2 hI3
      rw [itr_s, a3]
      exact ⟨σ', j1, j2, j3, FR_trans a1 j4⟩
    have hgu : gOf u ≤ 5 := by unfold gOf; repeat (first | omega | split)
    have hG : oG (tb t) i ≤ 5 := by unfold oG; repeat (first | omega | split)
    unfold f_M_lay_57 f_M_lay_209
    rw [e_o hm, bs, O_sec hm (by omega) hb, xb_mk, if_neg (nI_ge (by omega) (by omega)), e_o hm, bs, q_stays hm (by omega) hb hR.2.1 hR.2.2.1 hiS, xb_mk, nI_add]
    cases es : sta tb dr on R t i with
    | false =>
      rw [if_pos (show bI false = 0 from rfl)]
      exact step σ l (FR_refl σ) hL (by unfold lay3; rw [if_neg (fun q => by rw [es] at q; exact nomatch q.1)])
    | true =>
      rw [if_neg (show ¬ bI true = 0 by decide), e_o hm, bs, O_group hm (by omega) hb hiS, xb_mk]
      by_cases cg : oG (tb t) i = gOf u
      · have hst : lay3 tb (sta tb dr on R) (gOf u) t i l = l ++ [24 * t + i] := by unfold lay3; rw [if_pos ⟨es, cg⟩]
        have hll : l.length < 1536 := by
          have hI4 := hI3
          rw [hst] at hI4
          have := LI_len hT hI4
          rw [List.length_append] at this
          have : l.length + 1 ≤ 1536 := this
          omega
        obtain ⟨q1, q2, a, q3, q4⟩ := hR.2.2.2.1 t ht
        have hK : oK (tb t) i = true := by
          have := es
          unfold sta at this
          rw [Bool.and_eq_true] at this
          exact this.1
        have hZ := hw.1.2.2.2.2 i hiS hK
        have hL1 := hL.1
        have h17 := q2
        rw [if_pos (by rw [cg])]
        obtain ⟨σ1, hσ1⟩ : ∃ x, x = sA σ 51 (upd (gA σ 51) l.length (nI t)) := ⟨_, rfl⟩
        have f1 : FR [] [] [51] [] σ σ1 := by rw [hσ1]; exact FR_A σ 51 _
        obtain ⟨σ2, hσ2⟩ : ∃ x, x = sA σ1 52 (upd (gA σ1 52) l.length (nI (tq t / 8))) := ⟨_, rfl⟩
        have f2 : FR [] [] [52] [] σ1 σ2 := by rw [hσ2]; exact FR_A σ1 52 _
        obtain ⟨σ3, hσ3⟩ : ∃ x, x = sA σ2 53 (upd (gA σ2 53) l.length (nI (tq t % 8))) := ⟨_, rfl⟩
        have f3 : FR [] [] [53] [] σ2 σ3 := by rw [hσ3]; exact FR_A σ2 53 _
        obtain ⟨σ4, hσ4⟩ : ∃ x, x = sA σ3 54 (upd (gA σ3 54) l.length (nI i)) := ⟨_, rfl⟩
        have f4 : FR [] [] [54] [] σ3 σ4 := by rw [hσ4]; exact FR_A σ3 54 _
        obtain ⟨σ5, hσ5⟩ : ∃ x, x = sA σ4 55 (upd (gA σ4 55) l.length (nI (gOf u))) := ⟨_, rfl⟩
        have f5 : FR [] [] [55] [] σ4 σ5 := by rw [hσ5]; exact FR_A σ4 55 _
        obtain ⟨σ6, hσ6⟩ : ∃ x, x = sA σ5 56 (upd (gA σ5 56) l.length (nI (oZ (tb t) i))) := ⟨_, rfl⟩
        have f6 : FR [] [] [56] [] σ5 σ6 := by rw [hσ6]; exact FR_A σ5 56 _
        obtain ⟨σ7, hσ7⟩ : ∃ x, x = sI σ6 50 (nI (l.length + 1)) := ⟨_, rfl⟩
        have f7 : FR [50] [] [] [] σ6 σ7 := by rw [hσ7]; exact FR_I σ6 50 _
        have F2 : FR [50] [] laA [] σ σ2 := FR_trans (FR_mono f1 (by decide) (by decide) (by decide) (by decide)) (FR_mono f2 (by decide) (by decide) (by decide) (by decide))
        have F3 : FR [50] [] laA [] σ σ3 := FR_trans F2 (FR_mono f3 (by decide) (by decide) (by decide) (by decide))
        have F5 : FR [50] [] laA [] σ σ5 := FR_trans F3 (FR_trans (FR_mono f4 (by decide) (by decide) (by decide) (by decide)) (FR_mono f5 (by decide) (by decide) (by decide) (by decide)))
        have F7 : FR [50] [] laA [] σ σ7 := FR_trans F5 (FR_trans (FR_mono f6 (by decide) (by decide) (by decide) (by decide)) (FR_mono f7 (by decide) (by decide) (by decide) (by decide)))
        have i1 : gI σ1 50 = nI l.length := (f1.1 50 (by decide)).trans hL1
        have i2 : gI σ2 50 = nI l.length := (f2.1 50 (by decide)).trans i1
        have i3 : gI σ3 50 = nI l.length := (f3.1 50 (by decide)).trans i2
        have i4 : gI σ4 50 = nI l.length := (f4.1 50 (by decide)).trans i3
        have i5 : gI σ5 50 = nI l.length := (f5.1 50 (by decide)).trans i4
        have i6 : gI σ6 50 = nI l.length := (f6.1 50 (by decide)).trans i5
        have g17 : gA σ1 17 t = nI (tq t) := by rw [f1.2.2.1 17 (by decide)]; exact q2
        have g172 : gA σ2 17 t = nI (tq t) := by rw [f2.2.2.1 17 (by decide)]; exact g17
        have g52 : gA σ2 52 l.length = nI (tq t / 8) := by rw [hσ2, gA_sA, if_pos rfl, upd_eq]
        have g11 : gA σ2 11 (tq t / 8) = bI a := by rw [F2.2.2.1 11 (by decide)]; exact q3
        have b5 := OB_FR hb F5 (by decide)
        have e159 : f_M_lay_159 F k7 k39 (f_M_lay_57 F k7 k39 g) m (nI u) (nI (gOf u)) (nI t) (nI (tO t)) (nI i) (m + 39) (nI l.length) (nI (tq t % 8)) (mh m h σ2) = f_M_lay_57 F k7 k39 g m (nI u) (nI (gOf u)) (nI t) (nI (tO t)) (nI (i + 1)) (mh m h σ7) := by
          unfold f_M_lay_159 f_M_lay_209
          rw [Ms53 hm hll, bs, ← hσ3, Mr54 hm, bs, Mg50 hm, bs, i3, Ms54 hm hll, bs, ← hσ4, Mr55 hm, bs, Mg50 hm, bs, i4, Ms55 hm hll, bs, ← hσ5, Mr56 hm, bs, Mg50 hm, bs, i5, e_o hm, bs, O_size hm (by omega) b5 hiS, xb_mk, lN_i, Ms56 hm hll, bs, ← hσ6, Mg50 hm, bs, i6, nI_add, Mp50 hm, bs, ← hσ7, nI_add]
        have ht64 := hb.1.1
        rw [Mr51 hm, bs, Mg50 hm, bs, hL1, Ms51 hm hll, bs, ← hσ1, Mr52 hm, bs, Mg50 hm, bs, i1, Mr17 hm, bs, Ma17 hm (by omega), bs, g17, pk_div (by omega) (by decide) (by decide), Ms52 hm hll, bs, ← hσ2, Mr53 hm, bs, Mg50 hm, bs, i2, Mr11 hm, bs, Mr52 hm, bs, bs, Ma52 hm hll, bs, g52, Ma11 hm (by omega), bs, g11]
        have g6' : ∀ k, k ∈ laA → k ≠ 56 → gA σ7 k = gA σ6 k := fun k _ _ => f7.2.2.1 k List.not_mem_nil
        have hl7 : RLa σ7 tq tb (l ++ [24 * t + i]) := by
          refine ⟨by rw [hσ7, gI_sI, if_pos rfl, List.length_append]; rfl, fun p x hx => ?_⟩
          have g51 : gA σ7 51 = upd (gA σ 51) l.length (nI t) := by rw [f7.2.2.1 51 (by decide), f6.2.2.1 51 (by decide), f5.2.2.1 51 (by decide), f4.2.2.1 51 (by decide), f3.2.2.1 51 (by decide), f2.2.2.1 51 (by decide), hσ1, gA_sA, if_pos rfl]
          have g52 : gA σ7 52 = upd (gA σ 52) l.length (nI (tq t / 8)) := by rw [f7.2.2.1 52 (by decide), f6.2.2.1 52 (by decide), f5.2.2.1 52 (by decide), f4.2.2.1 52 (by decide), f3.2.2.1 52 (by decide), hσ2, gA_sA, if_pos rfl, f1.2.2.1 52 (by decide)]
          have g53 : gA σ7 53 = upd (gA σ 53) l.length (nI (tq t % 8)) := by rw [f7.2.2.1 53 (by decide), f6.2.2.1 53 (by decide), f5.2.2.1 53 (by decide), f4.2.2.1 53 (by decide), hσ3, gA_sA, if_pos rfl, f2.2.2.1 53 (by decide), f1.2.2.1 53 (by decide)]
          have g54 : gA σ7 54 = upd (gA σ 54) l.length (nI i) := by rw [f7.2.2.1 54 (by decide), f6.2.2.1 54 (by decide), f5.2.2.1 54 (by decide), hσ4, gA_sA, if_pos rfl, f3.2.2.1 54 (by decide), f2.2.2.1 54 (by decide), f1.2.2.1 54 (by decide)]
          have g55 : gA σ7 55 = upd (gA σ 55) l.length (nI (gOf u)) := by rw [f7.2.2.1 55 (by decide), f6.2.2.1 55 (by decide), hσ5, gA_sA, if_pos rfl, f4.2.2.1 55 (by decide), f3.2.2.1 55 (by decide), f2.2.2.1 55 (by decide), f1.2.2.1 55 (by decide)]
          have g56 : gA σ7 56 = upd (gA σ 56) l.length (nI (oZ (tb t) i)) := by rw [f7.2.2.1 56 (by decide), hσ6, gA_sA, if_pos rfl, f5.2.2.1 56 (by decide), f4.2.2.1 56 (by decide), f3.2.2.1 56 (by decide), f2.2.2.1 56 (by decide), f1.2.2.1 56 (by decide)]
          rw [g51, g52, g53, g54, g55, g56]
          by_cases cp : p < l.length
          · rw [List.getElem?_append_left cp] at hx
            rw [upd_ne (by omega), upd_ne (by omega), upd_ne (by omega), upd_ne (by omega), upd_ne (by omega), upd_ne (by omega)]
            exact hL.2 p x hx
          · have hl := (List.getElem?_eq_some_iff.mp hx).1
            rw [List.length_append] at hl
            have hl : p < l.length + 1 := hl
            have e : p = l.length := by omega
            rw [e, List.getElem?_append_right (Nat.le_refl _), Nat.sub_self] at hx
            have hx : 24 * t + i = x := Option.some.inj hx
            rw [e, ← hx, show (24 * t + i) / 24 = t by omega, show (24 * t + i) % 24 = i by omega, upd_eq, upd_eq, upd_eq, upd_eq, upd_eq, upd_eq, cg]
            exact ⟨rfl, rfl, rfl, rfl, rfl, rfl⟩
        cases a with
        | false =>
          rw [if_pos (show bI false = 0 from rfl)]
          have e8 := q4 rfl
          rw [e8] at e159
          rw [e159]
          exact step σ7 _ F7 hl7 hst
        | true =>
          rw [if_neg (show ¬ bI true = 0 by decide), Mr17 hm, bs, Ma17 hm (by omega), bs, g172, pk_rem (by omega) (by decide) (by decide), e159]
          exact step σ7 _ F7 hl7 hst
      · rw [if_neg (fun q => cg ((nI_eq (by omega) (by omega)).mp q))]
        exact step σ l (FR_refl σ) hL (by unfold lay3; rw [if_neg (fun q => cg q.2)])
theorem q_lay_39 {u : Nat} (hm : m ≤ h.length) (hF : 65536 < F) (hT : T ≤ 64) (hu : u < 6) : ∀ (c t g : Nat) (σ : px_S) (l : List Nat), t + c = T → c < g → RWl σ T tO tn tq tb dr on R → RLa σ tq tb l → LI T tb (sta tb dr on R) u (24 * t) l → ∃ σ', f_M_lay_39 F k7 g m (nI u) (nI (gOf u)) (nI t) (mh m h σ) = k7 m (nI (u + 1)) (mh m h σ') ∧ RLa σ' tq tb (itr (lay2 tb (sta tb dr on R) (gOf u)) t c l) ∧ LI T tb (sta tb dr on R) (u + 1) 0 (itr (lay2 tb (sta tb dr on R) (gOf u)) t c l) ∧ FR [50] [] laA [] σ σ' := by
  intro c
  induction c with
  | zero =>
    intro t g σ l ht hg hR hL hI
    obtain ⟨g, rfl⟩ : ∃ x, g = x + 1 := ⟨g - 1, by omega⟩
    unfold f_M_lay_39 f_M_lay_221
    rw [Mg14 hm, bs, hR.2.2.2.2, if_pos (nI_le (by omega) (by omega)), nI_add]
    exact ⟨σ, rfl, hL, LI_u hI, FR_refl σ⟩
  | succ c ih =>
    intro t g σ l ht hg hR hL hI
    obtain ⟨g, rfl⟩ : ∃ x, g = x + 1 := ⟨g - 1, by omega⟩
    have hb := hR.1 t (by omega)
    have hS := (OB_w hb).1.2.1
    obtain ⟨σ1, a1, a2, a3, a4⟩ := q_lay_57 (F := F) (k7 := k7) (k39 := f_M_lay_39 F k7 g) (u := u) (t := t) hm hF hT hu (by omega) (oS (tb t) - 1) 1 F σ l (by omega) (by omega) (by omega) hR hL (LI_p hI (by omega))
    unfold f_M_lay_39
    rw [Mg14 hm, bs, hR.2.2.2.2, if_neg (nI_ge (by omega) (by omega)), e_o hm, bs, O_obj hm hb, xb_mk, a1, itr_s]
    obtain ⟨σ2, b1, b2, b3, b4⟩ := ih (t + 1) g σ1 _ (by omega) (by omega) (RWl_FR hR a4 (by decide) (by decide)) a2 (LI_p a3 (by omega))
    exact ⟨σ2, b1, b2, b3, FR_trans a4 b4⟩
theorem q_lay_7 (hm : m ≤ h.length) (hF : 65536 < F) (hT : T ≤ 64) : ∀ (c u g : Nat) (σ : px_S) (l : List Nat), u + c = 6 → c < g → RWl σ T tO tn tq tb dr on R → RLa σ tq tb l → LI T tb (sta tb dr on R) u 0 l → ∃ σ', f_M_lay_7 F g m (nI u) (mh m h σ) = some ((), mh m h σ') ∧ RLa σ' tq tb (itr (lay1 T tb (sta tb dr on R)) u c l) ∧ LI T tb (sta tb dr on R) 6 0 (itr (lay1 T tb (sta tb dr on R)) u c l) ∧ FR [50] [] laA [] σ σ' := by
  intro c
  induction c with
  | zero =>
    intro u g σ l hu hg hR hL hI
    obtain ⟨g, rfl⟩ : ∃ x, g = x + 1 := ⟨g - 1, by omega⟩
    have e : u = 6 := by omega
    rw [e] at hI ⊢
    unfold f_M_lay_7 f_M_lay_227
    rw [if_pos (by decide)]
    exact ⟨σ, rfl, hL, hI, FR_refl σ⟩
  | succ c ih =>
    intro u g σ l hu hg hR hL hI
    obtain ⟨g, rfl⟩ : ∃ x, g = x + 1 := ⟨g - 1, by omega⟩
    obtain ⟨σ1, a1, a2, a3, a4⟩ := q_lay_39 (F := F) (k7 := f_M_lay_7 F g) (u := u) hm hF hT (by omega) T 0 F σ l (by omega) (by omega) hR hL hI
    obtain ⟨σ2, b1, b2, b3, b4⟩ := ih (u + 1) g σ1 _ (by omega) (by omega) (RWl_FR hR a4 (by decide) (by decide)) a2 a3
    rw [itr_s]
    refine ⟨σ2, ?_, b2, b3, FR_trans a4 b4⟩
    unfold f_M_lay_7 f_M_lay_36
    rw [if_neg (nI_ge (by omega) (by omega))]
    by_cases c1 : u < 2
    · have e : gOf u = u := by unfold gOf; rw [if_pos c1]
      rw [e] at a1
      rw [if_neg (nI_ge (by omega) (by omega)), a1, b1]
    · rw [if_pos (nI_le (by omega) (by omega))]
      by_cases c2 : u < 4
      · have e : gOf u = u + 2 := by unfold gOf; rw [if_neg c1, if_pos c2]
        rw [e] at a1
        rw [if_neg (nI_ge (by omega) (by omega)), nI_add, a1, b1]
      · have e : gOf u = u - 2 := by unfold gOf; rw [if_neg c1, if_neg c2]
        rw [e] at a1
        rw [if_pos (nI_le (by omega) (by omega)), pk_sub (by omega), a1, b1]
theorem q_lay {σ : px_S} (hm : m ≤ h.length) (hF : 65536 < F) (hT : T ≤ 64) (hR : RWl σ T tO tn tq tb dr on R) : ∃ σ', f_M_lay F m (mh m h σ) = some ((), mh m h σ') ∧ RLa σ' tq tb (layL T tb (sta tb dr on R)) ∧ LI T tb (sta tb dr on R) 6 0 (layL T tb (sta tb dr on R)) ∧ FR [50] [] laA [] σ σ' := by
  have f1 := FR_I σ 50 (nI 0)
  obtain ⟨σ1, a1, a2, a3, a4⟩ := q_lay_7 (F := F) (h := h) hm hF hT 6 0 F (sI σ 50 (nI 0)) [] (by omega) (by omega) (RWl_FR hR f1 (by decide) (by decide)) ⟨by rw [gI_sI, if_pos rfl]; rfl, fun p x hx => by rw [List.getElem?_nil] at hx; cases hx⟩ ⟨List.nodup_nil, fun x hx => absurd hx List.not_mem_nil⟩
  refine ⟨σ1, ?_, a2, a3, FR_trans (FR_mono f1 (by decide) (by decide) (by decide) (by decide)) a4⟩
  unfold f_M_lay
  rw [Mp50 hm, bs, a1]
end MLZ
