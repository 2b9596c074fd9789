/-! every string has its place in the pool; byteAddress of the reference -/
theorem sufB_tr {u v : List Nat} : ∀ {w : List Nat}, sufB u v = true → sufB v w = true → sufB u w = true := by
  intro w
  induction w with
  | nil => intro h1 h2; rw [of_decide_eq_true h2] at h1; exact h1
  | cons c w ih =>
    intro h1 h2
    rw [show sufB v (c :: w) = (decide (v = c :: w) || sufB v w) from rfl, Bool.or_eq_true] at h2
    rcases h2 with h2 | h2
    · rw [of_decide_eq_true h2] at h1; exact h1
    · show (decide (u = c :: w) || sufB u w) = true
      rw [ih h1 h2, Bool.or_true]
theorem sufB_c {c : Nat} {u : List Nat} : sufB u (c :: u) = true := by
  show (decide (u = c :: u) || sufB u u) = true
  rw [sufB_refl, Bool.or_true]
theorem peO_mono {B : Nat → Nat} {pf : List Nat} {f : Nat} {u : List Nat} (h : (peO B 0 pf u).isSome = true) : (peO B 0 (pf ++ [f]) u).isSome = true := by
  obtain ⟨g, g1, g2⟩ := peO_some.mp h
  exact peO_some.mpr ⟨g, List.mem_append_left _ g1, g2⟩
theorem fp1_mono {B : Nat → Nat} {nd : List (List Nat)} {p j : Nat} {pf : List Nat} {u : List Nat} (h : (peO B 0 pf u).isSome = true) : (peO B 0 (fp1 B nd p j pf) u).isSome = true := by
  unfold fp1
  split
  · exact peO_mono h
  · exact h
theorem s1F_mono {B : Nat → Nat} {nd : List (List Nat)} {tO : Nat → Nat} {tb : Nat → Nat → Nat} {u : List Nat} : ∀ (l : List Nat) (pf : List Nat), (peO B 0 pf u).isSome = true → (peO B 0 (l.foldl (s1F B nd tO tb) pf) u).isSome = true := by
  intro l
  induction l with
  | nil => intro pf h; exact h
  | cons x l ih =>
    intro pf h
    rw [List.foldl_cons]
    refine ih _ ?_
    unfold s1F
    split
    · exact itr_inv (g := fp1 B nd (pS tO tb x)) (P := fun pf => (peO B 0 pf u).isSome = true) (a := 0) (e := zS tb x) (fun i s _ _ hs => fp1_mono hs) (zS tb x) 0 pf (Nat.le_refl _) (by omega) h
    · exact h
theorem fp1_hit {B : Nat → Nat} {nd : List (List Nat)} {p Z : Nat} {pf : List Nat} {j : Nat} (hj : j < Z) (h0 : B (p + j) = 0) (hc : noC nd (st B (frm B p j))) : (peO B 0 (itr (fp1 B nd p) 0 Z pf) (st B (frm B p j))).isSome = true := by
  refine (itr_hit (g := fp1 B nd p) (M := fun (u : List Nat) pf => (peO B 0 pf u).isSome = true) (v := fun i => st B (frm B p i)) (Q := fun i => B (p + i) = 0 ∧ noC nd (st B (frm B p i))) (a := 0) (e := Z) (fun i s w _ _ hw => fp1_mono hw) (fun i s _ _ hq => ?_) Z 0 pf (Nat.le_refl _) (by omega)).2 j (Nat.zero_le _) (by omega) ⟨h0, hc⟩
  unfold fp1
  cases e : peO B 0 s (st B (frm B p i)) with
  | some y =>
    rw [if_neg (fun q => nomatch q.2.2)]
    rw [e]; rfl
  | none =>
    rw [if_pos ⟨hq.1, lst_0.mpr hq.2, rfl⟩]
    exact peO_some.mpr ⟨frm B p i, List.mem_append_right _ (List.mem_singleton.mpr rfl), sufB_refl⟩
theorem pf0_hit {B : Nat → Nat} {nd : List (List Nat)} {tO : Nat → Nat} {tb : Nat → Nat → Nat} {x j : Nat} (hs : sS tb x = true) (hj : j < zS tb x) (h0 : B (pS tO tb x + j) = 0) (hc : noC nd (st B (frm B (pS tO tb x) j))) : ∀ (l : List Nat) (pf : List Nat), x ∈ l → (peO B 0 (l.foldl (s1F B nd tO tb) pf) (st B (frm B (pS tO tb x) j))).isSome = true := by
  intro l
  induction l with
  | nil => intro pf h; exact absurd h List.not_mem_nil
  | cons y l ih =>
    intro pf h
    rw [List.foldl_cons]
    rcases List.mem_cons.mp h with e | e
    · refine s1F_mono l _ ?_
      rw [← e]
      unfold s1F
      rw [if_pos hs]
      exact fp1_hit hj h0 hc
    · exact ih _ e
/-- a node is an end of a string -/
def ndC (B : Nat → Nat) (tO : Nat → Nat) (tb : Nat → Nat → Nat) (ll : List Nat) (w : List Nat) : Prop := w = [] ∨ ∃ x j y, x ∈ ll ∧ sS tb x = true ∧ j < zS tb x ∧ B (pS tO tb x + j) = 0 ∧ frm B (pS tO tb x) j ≤ y ∧ y < pS tO tb x + j ∧ w = st B y
theorem nd0_char {B : Nat → Nat} {tO : Nat → Nat} {tb : Nat → Nat → Nat} {ll : List Nat} : ∀ (l : List Nat) (nd : List (List Nat)), (∀ x, x ∈ l → x ∈ ll) → (∀ w, w ∈ nd → ndC B tO tb ll w) → ∀ w, w ∈ l.foldl (s0F B tO tb) nd → ndC B tO tb ll w := by
  intro l
  induction l with
  | nil => intro nd _ h w hw; exact h w hw
  | cons x l ih =>
    intro nd hl h
    rw [List.foldl_cons]
    refine ih _ (fun y hy => hl y (List.mem_cons_of_mem _ hy)) ?_
    unfold s0F
    split
    · rename_i hs
      refine itr_inv (g := fp0 B (pS tO tb x)) (P := fun nd => ∀ w, w ∈ nd → ndC B tO tb ll w) (a := 0) (e := zS tb x) (fun j s _ hj hs2 w hw => ?_) (zS tb x) 0 nd (Nat.le_refl _) (by omega) h
      unfold fp0 at hw
      split at hw
      · rename_i h0
        rcases (ndS_mem j s).mp hw with q | ⟨y, y1, y2, y3⟩
        · exact hs2 w q
        · exact Or.inr ⟨x, j, y, hl x List.mem_cons_self, hs, hj, h0, y1, y2, y3⟩
      · exact hs2 w hw
    · exact h
theorem st_le {B : Nat → Nat} {x : Nat} : (st B x).length ≤ 65536 := by
  unfold st
  have : ∀ (c x : Nat), (rst B x c).length ≤ c := by
    intro c
    induction c with
    | zero => intro x; exact Nat.le_refl _
    | succ c ih =>
      intro x
      show (if B x = 0 then [] else B x :: rst B (x + 1) c).length ≤ c + 1
      split
      · exact Nat.zero_le _
      · rw [List.length_cons]; have := ih (x + 1); omega
  have := this (65536 - x) x
  omega
theorem noC_ex {B : Nat → Nat} {nd : List (List Nat)} (hn : ndB B nd) : ∀ (d : Nat) (s : List Nat), 65537 - s.length ≤ d → s ∈ nd → ∃ w, w ∈ nd ∧ noC nd w ∧ sufB s w = true := by
  intro d
  induction d with
  | zero =>
    intro s hd hs
    obtain ⟨x, _, hx⟩ := hn s hs
    have := st_le (B := B) (x := x)
    rw [← hx] at this
    omega
  | succ d ih =>
    intro s hd hs
    by_cases c : noC nd s
    · exact ⟨s, hs, c, sufB_refl⟩
    · have : ∃ c, c :: s ∈ nd := Classical.byContradiction (fun q => c (fun c hc => q ⟨c, hc⟩))
      obtain ⟨c, hc⟩ := this
      obtain ⟨w, w1, w2, w3⟩ := ih (c :: s) (by rw [List.length_cons]; omega) hc
      exact ⟨w, w1, w2, sufB_tr sufB_c w3⟩
/-- every string stands in the pool -/
theorem pf0_all {B : Nat → Nat} {tO : Nat → Nat} {tb : Nat → Nat → Nat} {ll : List Nat} {x j : Nat} (hn : ndB B (nd0 B tO tb ll)) (hin : ∀ x, x ∈ ll → sS tb x = true → pS tO tb x + zS tb x ≤ 65536) (hx : x ∈ ll) (hs : sS tb x = true) (hj : j < zS tb x) (h0 : B (pS tO tb x + j) = 0) : (peO B 0 (pf0 B tO tb ll) (st B (frm B (pS tO tb x) j))).isSome = true := by
  have hb := hin x hx hs
  have hal := nd0_all (B := B) (tO := tO) hs ll [[]] hx
  have hf := frm_le (B := B) (p := pS tO tb x) j
  by_cases c0 : noC (nd0 B tO tb ll) (st B (frm B (pS tO tb x) j))
  · exact pf0_hit hs hj h0 c0 ll [] hx
  · have hmem : st B (frm B (pS tO tb x) j) ∈ nd0 B tO tb ll := by
      by_cases q : frm B (pS tO tb x) j < pS tO tb x + j
      · exact hal j hj h0 _ (Nat.le_refl _) q
      · rw [show frm B (pS tO tb x) j = pS tO tb x + j by omega, st_0 (by omega) h0]
        exact s0F_mono ll _ List.mem_cons_self
    obtain ⟨w, w1, w2, w3⟩ := noC_ex hn 65537 _ (by omega) hmem
    have hchar := nd0_char (B := B) (tO := tO) (tb := tb) (ll := ll) ll [[]] (fun x hx => hx) (fun w hw => Or.inl (List.mem_singleton.mp hw)) w w1
    rcases hchar with e | ⟨x', j', y, x1, x2, x3, x4, x5, x6, x7⟩
    · exfalso
      rw [e] at w3 w2
      have : st B (frm B (pS tO tb x) j) = [] := of_decide_eq_true w3
      rw [this] at c0
      exact c0 w2
    · have hb' := hin x' x1 x2
      have hf' := frm_le (B := B) (p := pS tO tb x') j'
      have ey : y = frm B (pS tO tb x') j' := by
        by_cases q : y = frm B (pS tO tb x') j'
        · exact q
        · exfalso
          have hal' := nd0_all (B := B) (tO := tO) x2 ll [[]] x1
          have h1 := hal' j' x3 x4 (y - 1) (by omega) (by omega)
          rw [st_n (by omega) (hf'.2.2 (y - 1) (by omega) (by omega)), show y - 1 + 1 = y by omega, ← x7] at h1
          exact w2 _ h1
      rw [x7, ey] at w2 w3
      have := pf0_hit x2 x3 x4 w2 ll [] x1
      obtain ⟨f, f1, f2⟩ := peO_some.mp this
      exact peO_some.mpr ⟨f, f1, sufB_tr w3 f2⟩
section MBA
variable {F m p : Nat} {h : px_H} {B : Nat → Nat}
theorem q_nO_80 {σ : px_S} {nd : List (List Nat)} (hm : m ≤ h.length) (hF : 65540 < F) (hb : RB σ B) (ht : TR σ nd) (hN : nd.length ≤ 65538) : ∀ (d k g : Nat), d < g → p + d ≤ 65535 → (∀ x, frm B p d ≤ x → x < p + d → st B x ∈ nd) → nd[k]? = some (st B (p + d)) → ∃ k', f_M_nodeOf_8 F g m (nI p) (nI 0) (nI (k + 1)) (nI (p + d) - nI 1) (mh m h σ) = some (nI (k' + 1), mh m h σ) ∧ nd[k']? = some (st B (frm B p d)) := by
  intro d
  induction d with
  | zero =>
    intro k g hg hp hx hk
    obtain ⟨g, rfl⟩ : ∃ x, g = x + 1 := ⟨g - 1, by omega⟩
    unfold f_M_nodeOf_8 f_M_nodeOf_46
    rw [if_pos (by rw [Nat.add_zero]; exact back_lt (by omega))]
    exact ⟨k, rfl, hk⟩
  | succ d ih =>
    intro k g hg hp hx hk
    obtain ⟨g, rfl⟩ : ∃ x, g = x + 1 := ⟨g - 1, by omega⟩
    have e1 : nI (p + (d + 1)) - nI 1 = nI (p + d) := by rw [pk_sub (by omega)]; rfl
    unfold f_M_nodeOf_8 f_M_nodeOf_46
    rw [e1, if_neg (nI_nlt (by omega) (by omega)), Mr6 hm, bs, Ma6 hm (by omega), bs, bs, frm_s]
    rw [frm_s] at hx
    by_cases c : B (p + d) = 0
    · rw [if_pos ((RB_0 hb _).mpr c), if_pos c]
      exact ⟨k, rfl, hk⟩
    · rw [if_neg c] at hx
      have hf := frm_le (B := B) (p := p) d
      have es : st B (p + d) = B (p + d) :: st B (p + (d + 1)) := st_n (by omega) c
      have hin := hx (p + d) hf.2.1 (by omega)
      obtain ⟨σ1, a1, a2, a3, a4, a5⟩ := q_childOf7 (F := F) (mk := nI 0) (h := h) hm hF ht hN (RB_lt hb (p + d)) hk (by rw [← es]; exact hin)
      rw [← es] at a1 a3
      rw [a3 hin] at a1
      obtain ⟨i, hi⟩ := Option.isSome_iff_exists.mp (idx_iff.mpr hin)
      have hip : plc (st B (p + d)) nd = i := by unfold plc; rw [hi]; rfl
      have hin2 : nd[i]? = some (st B (p + d)) := by have := idx_some hi; rw [Nat.sub_zero] at this; exact this
      rw [if_neg (fun q => c ((RB_0 hb _).mp q)), if_neg c, e_o hm, Ma6 hm (by omega), bs, bs, RB_byt hb, a1, xb_mk, nI_back, hip]
      exact ih i g (by omega) (by omega) (fun x h1 h2 => hx x h1 (by omega)) hin2
/-- the next byte 0 from j on -/
def nxt (B : Nat → Nat) (p : Nat) : Nat → Nat → Nat
  | j, 0 => j
  | j, c + 1 => if B (p + j) = 0 then j else nxt B p (j + 1) c
theorem nxt_s {j c : Nat} : nxt B p j (c + 1) = if B (p + j) = 0 then j else nxt B p (j + 1) c := rfl
theorem nxt_0 {Z : Nat} (hz : B (p + (Z - 1)) = 0) : ∀ (c j : Nat), j + c = Z → 0 < c → B (p + nxt B p j c) = 0 ∧ j ≤ nxt B p j c ∧ nxt B p j c < Z := by
  intro c
  induction c with
  | zero => intro j _ h; omega
  | succ c ih =>
    intro j hj _
    rw [nxt_s]
    by_cases c0 : B (p + j) = 0
    · rw [if_pos c0]; exact ⟨c0, Nat.le_refl _, by omega⟩
    · rw [if_neg c0]
      cases c with
      | zero => rw [show Z - 1 = j by omega] at hz; exact absurd hz c0
      | succ c =>
        have := ih (j + 1) (by omega) (by omega)
        exact ⟨this.1, by omega, this.2.2⟩
theorem q_bA_46 {σ : px_S} {V : Int64} {Z : Nat} (hm : m ≤ h.length) (hb : RB σ B) (hp : p + Z ≤ 65536) (hz : B (p + (Z - 1)) = 0) : ∀ (c j g : Nat), j + c = Z → 0 < c → c < g → f_M_byteAddress_46 F g m V (nI p) (nI (p + j)) (mh m h σ) = f_M_byteAddress_62 F m V (nI p) (nI (p + nxt B p j c)) (mh m h σ) := by
  intro c
  induction c with
  | zero => intro j g _ h; omega
  | succ c ih =>
    intro j g hj _ hg
    obtain ⟨g, rfl⟩ : ∃ x, g = x + 1 := ⟨g - 1, by omega⟩
    unfold f_M_byteAddress_46
    rw [Mr6 hm, bs, Ma6 hm (by omega), bs, nxt_s]
    by_cases c0 : B (p + j) = 0
    · rw [if_pos ((RB_0 hb _).mpr c0), if_pos c0]
    · rw [if_neg (fun q => c0 ((RB_0 hb _).mp q)), if_neg c0, nI_add]
      cases c with
      | zero => rw [show Z - 1 = j by omega] at hz; exact absurd hz c0
      | succ c => exact ih (j + 1) g (by omega) (by omega) (by omega)
/-- where byte V of the section at p, of Z bytes, stands in the pool -/
def baN (B : Nat → Nat) (pf : List Nat) (p Z V : Nat) : Nat := if V < Z then (peO B 0 pf (st B (frm B p (nxt B p V (Z - V))))).getD 0 - (nxt B p V (Z - V) + 1 - V) else psz B pf
theorem q_byteAddress {σ : px_S} {T t i V pp : Nat} {tO tn tq : Nat → Nat} {tb : Nat → Nat → Nat} {ll : List Nat} (hm : m ≤ h.length) (hF : 65540 < F) (hW : RWp σ T tO tn tq tb ll B) (hl : llP T tb ll) (hn : ndB B (nd0 B tO tb ll)) (hr : RPo σ B (nd0 B tO tb ll) (pf0 B tO tb ll)) (hI : PIn B (nd0 B tO tb ll) (pf0 B tO tb ll)) (hx : 24 * t + i ∈ ll) (hi24 : i < 24) (hs : oStr (tb t) i = true) (hV : V < 2 ^ 64) (h90 : gJ σ 90 = lN pp) : f_M_byteAddress F m (nI (tO t)) (nI i) (lN V) (mh m h σ) = some (lN (pp + baN B (pf0 B tO tb ll) (tO t + oP (tb t) i) (oZ (tb t) i) V), mh m h σ) := by
  have e1 : (24 * t + i) / 24 = t := by omega
  have e2 : (24 * t + i) % 24 = i := by omega
  have hx2 := hl.2 _ hx
  rw [e1, e2] at hx2
  have hb := hW.1 t hx2.1
  have hsS : sS tb (24 * t + i) = true := by unfold sS; rw [e1, e2]; exact hs
  have epS : pS tO tb (24 * t + i) = tO t + oP (tb t) i := by unfold pS; rw [e1, e2]
  have ezS : zS tb (24 * t + i) = oZ (tb t) i := by unfold zS; rw [e1, e2]
  have hin := sS_in hW (by rw [e1, e2]; exact hx2) hsS
  rw [epS, ezS] at hin
  have hszP := PIn_sz hI
  have e17 : f_M_byteAddress_17 F m (mh m h σ) = some (lN (pp + psz B (pf0 B tO tb ll)), mh m h σ) := by
    unfold f_M_byteAddress_17
    rw [Mg90 hm, bs, Mg88 hm, bs, h90, hr.2.2.1, nI_l (by omega), lN_add]
  unfold f_M_byteAddress baN
  by_cases c1 : V < oZ (tb t) i
  · have hz0 : B (tO t + oP (tb t) i + (oZ (tb t) i - 1)) = 0 := by
      have h0 : oStr0 (tb t) i = true := by unfold oStr at hs; rw [Bool.and_eq_true] at hs; exact hs.1
      unfold oStr0 at h0
      have h0 := of_decide_eq_true h0
      have h5 := h0.2.2.2.2.2
      have hlt := oK_in (OB_w hb).1 hx2.2.2 h0.1 h0.2.1
      have h6 := O_b8 hb (show oP (tb t) i + oZ (tb t) i - 1 < tn t by omega)
      rw [hW.2.2.2, show tO t + oP (tb t) i + (oZ (tb t) i - 1) = tO t + (oP (tb t) i + oZ (tb t) i - 1) by omega, h6, h5]
    have hnx := nxt_0 (B := B) (p := tO t + oP (tb t) i) hz0 (oZ (tb t) i - V) V (by omega) (by omega)
    rw [if_neg (show ¬ lN V < lN 0 from fun q => by have := (pk_lLT (a := V) (b := 0) (by omega) (by decide)).mp q; omega), e_o hm, bs, O_size hm (by omega) hb hx2.2.2, xb_mk, if_pos ((pk_lLT (by omega) (by omega)).mpr c1), if_pos c1, e_o hm, bs, O_beg hm (by omega) hb hx2.2.2, xb_mk, lN_i, lN_i, nI_add, nI_add, q_bA_46 hm hW.2.2 hin hz0 (oZ (tb t) i - V) V F (by omega) (by omega) (by omega)]
    generalize hnn : nxt B (tO t + oP (tb t) i) V (oZ (tb t) i - V) = e at *
    generalize hpp : tO t + oP (tb t) i = P at *
    have hal := nd0_all (B := B) (tO := tO) hsS ll [[]] hx
    rw [epS, ezS] at hal
    have hN : (nd0 B tO tb ll).length ≤ 65537 := nodup_img (f := st B) 65537 _ hr.1.2.2.1 hn
    obtain ⟨k', k1, k2⟩ := q_nO_80 (F := F) (h := h) (p := P) hm hF hW.2.2 hr.1 (by omega) e 0 F (by omega) (by omega) (hal e hnx.2.2 hnx.1) (by rw [st_0 (by omega) hnx.1]; exact hr.1.2.1)
    have hk' := (List.getElem?_eq_some_iff.mp k2).1
    have h94 := hr.2.1.1 k' _ k2
    have hsm := pf0_all (B := B) (tO := tO) (tb := tb) (ll := ll) (x := 24 * t + i) (j := e) hn (fun x hx hs => sS_in hW (hl.2 x hx) hs) hx hsS (by rw [ezS]; exact hnx.2.2) (by rw [epS]; exact hnx.1)
    rw [epS] at hsm
    obtain ⟨y, hy⟩ := Option.isSome_iff_exists.mp hsm
    rw [hy] at h94
    have hyl := peO_le hy
    obtain ⟨f, f1, f2⟩ := peO_some.mp hsm
    have hyge : e + 1 - V ≤ y := by
      have hf := frm_le (B := B) (p := P) e
      have hl2 := st_len (B := B) (e := P + e) (by omega) hnx.1 (P + e - frm B P e) (frm B P e) (by omega) hf.2.2
      have hnz : V < e → frm B P e ≤ P + V := fun q => by
        have key : ∀ c j, j + c = oZ (tb t) i → ∀ x, j ≤ x → x < nxt B P j c → B (P + x) ≠ 0 := by
          intro c
          induction c with
          | zero => intro j _ x h1 h2; have : x < j := h2; omega
          | succ c ihc =>
            intro j hj x h1 h2
            rw [nxt_s] at h2
            by_cases cc : B (P + j) = 0
            · rw [if_pos cc] at h2; omega
            · rw [if_neg cc] at h2
              by_cases e3 : x = j
              · rw [e3]; exact cc
              · exact ihc (j + 1) (by omega) x (by omega) h2
        have hnz2 : ∀ x, V ≤ x → x < e → B (P + x) ≠ 0 := fun x h1 h2 => key (oZ (tb t) i - V) V (by omega) x h1 (by rw [hnn]; exact h2)
        have gen : ∀ d, V ≤ d → d ≤ e → frm B P d ≤ P + V := by
          intro d
          induction d with
          | zero => intro h1 _; have := (frm_le (B := B) (p := P) 0).2.1; omega
          | succ d ihd =>
            intro h1 h2
            rw [frm_s]
            by_cases q2 : V = d + 1
            · have := (frm_le (B := B) (p := P) (d + 1)).2.1
              rw [frm_s] at this
              rw [q2]; exact this
            · rw [if_neg (hnz2 d (by omega) (by omega))]
              exact ihd (by omega) (by omega)
        exact gen e (by omega) (Nat.le_refl _)
      have hle := sufB_len f2
      have key2 : ∀ (l : List Nat) (off : Nat), peO B off l (st B (frm B P e)) = some y → (st B (frm B P e)).length + 1 ≤ y := by
        intro l
        induction l with
        | nil => intro off hh; exact nomatch hh
        | cons g l ihl =>
          intro off hh
          have hh : (if sufB (st B (frm B P e)) (st B g) = true then some (off + ((st B g).length + 1)) else peO B (off + ((st B g).length + 1)) l (st B (frm B P e))) = some y := hh
          by_cases cg : sufB (st B (frm B P e)) (st B g) = true
          · rw [if_pos cg] at hh
            have := Option.some.inj hh
            have := sufB_len cg
            omega
          · rw [if_neg cg] at hh
            exact ihl _ hh
      have := key2 _ _ hy
      by_cases q : V < e
      · have := hnz q; omega
      · omega
    unfold f_M_byteAddress_62 f_M_nodeOf
    rw [Mg90 hm, bs, Mr94 hm, bs, e_o hm, bs, show nI 1 = nI (0 + 1) from rfl, k1, xb_mk, Ma94 hm (by omega), bs, h94, h90, show tdA (some y) = nI y from rfl, nI_l (by omega), lN_add, lN_i, nI_add, pk_sub (by omega), pk_sub (by omega), nI_l (by omega), lN_sub (by omega)]
    rw [hy]
    show _ = some (lN (pp + (y - (e + 1 - V))), _)
    rw [show pp + y - (P + e + (0 + 1) - P - V) = pp + (y - (e + 1 - V)) by omega]
  · rw [if_neg c1]
    by_cases c2 : lN V < lN 0
    · rw [if_pos c2, e17]
    · have hZ := (oK_in (OB_w hb).1 hx2.2.2 (by
        have h0 : oStr0 (tb t) i = true := by unfold oStr at hs; rw [Bool.and_eq_true] at hs; exact hs.1
        unfold oStr0 at h0
        exact (of_decide_eq_true h0).1) (by
        have h0 : oStr0 (tb t) i = true := by unfold oStr at hs; rw [Bool.and_eq_true] at hs; exact hs.1
        unfold oStr0 at h0
        exact (of_decide_eq_true h0).2.1)).2
      have hV63 : V < 2 ^ 63 := by
        by_cases q : V < 2 ^ 63
        · exact q
        · exfalso
          apply c2
          rw [Int64.lt_iff_toInt_lt, lN_ti hV, lN_ti (show 0 < 2 ^ 64 by decide), if_neg q, if_pos (by decide)]
          omega
      rw [if_neg c2, e_o hm, bs, O_size hm (by omega) hb hx2.2.2, xb_mk, if_neg (fun q => c1 ((pk_lLT hV63 (by omega)).mp q)), e17]
end MBA
