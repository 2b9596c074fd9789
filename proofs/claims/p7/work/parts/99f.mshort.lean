/-! isSectionNow, isInside, shortKind, isStrings of the reference -/
def isN (tb : Nat → Nat → Nat) (t w : Nat) : Bool := decide (0 < w ∧ w < oS (tb t)) && oK (tb t) w
def inN (tb : Nat → Nat → Nat) (dr : Nat → Bool) (r : px_NR) : Bool := if r.1 = 2 then true else match r.2.2.2.1 with
  | none => false
  | some q => decide (r.1 = 1 ∨ r.1 = 3) && isN tb q.1 (wNo dr q.1 (tb q.1) q.2)
def inY (tb : Nat → Nat → Nat) (dr : Nat → Bool) (xs : px_NL) (t k : Nat) : Bool := if k = 0 then false else if yB (tb t) k = 0 then isN tb t (wNo dr t (tb t) k) else match xs[plc (yT (tb t) k) (xs.map Prod.fst)]? with
  | none => false
  | some x => inN tb dr x.2
def skB (x y how : Nat) : Nat := if x = 139 ∧ (y ^^^ 5) &&& 199 = 0 then 1 else if how = 41 ∧ x = 255 then (if y = 21 then 2 else if y = 37 then 3 else 0) else 0
def skY (tb : Nat → Nat → Nat) (dr : Nat → Bool) (xs : px_NL) (t i j : Nat) : Nat := if (sH (tb t) i j = 41 ∨ sH (tb t) i j = 42) ∧ sD (tb t) i j = 18446744073709551612 ∧ 2 ≤ sL (tb t) i j ∧ inY tb dr xs t (sY (tb t) i j) = true then skB (tb t (oP (tb t) (oI (tb t) i) + sL (tb t) i j - 2)) (tb t (oP (tb t) (oI (tb t) i) + sL (tb t) i j - 1)) (sH (tb t) i j) else 0
theorem skB_3 {x y w : Nat} : skB x y w ≤ 3 := by unfold skB; repeat (first | omega | split)
theorem skY_3 {tb : Nat → Nat → Nat} {dr : Nat → Bool} {xs : px_NL} {t i j : Nat} : skY tb dr xs t i j ≤ 3 := by
  unfold skY
  split
  · exact skB_3
  · omega
section MSH
variable {F m T t o n i j w k x : Nat} {h : px_H} {σ : px_S} {b : Nat → Nat} {dr : Nat → Bool} {tb : Nat → Nat → Nat} {tO tn : Nat → Nat} {xs : px_NL}
theorem O_byte (hm : m ≤ h.length) (hb : OB σ t o n b) (hx : x < n) : xaI (mh m h σ) 0 (m + 3) (nI (o + x)) = some (gA σ 6 (o + x)) := Ma6 hm (by have := hb.2.2.1; omega)
theorem O_b8 (hb : OB σ t o n b) (hx : x < n) : b8 (gA σ 6 (o + x)) = b x := by rw [← hb.2.1, cb_at hx]
theorem O_b0 (hb : OB σ t o n b) (hx : x < n) : gA σ 6 (o + x) = 0 ↔ b x = 0 := by
  rw [← O_b8 hb hx]
  exact isB_eq (hb.2.2.2.2 _) (c := 0) (by decide)
theorem O_b255 (hb : OB σ t o n b) (hx : x < n) : gA σ 6 (o + x) &&& nI 255 = nI (b x) := by
  rw [← O_b8 hb hx]
  exact pk_and _ 8 (by decide)
theorem q_isSectionNow (hm : m ≤ h.length) (hF : 24 < F) (hb : OB σ t o n (tb t)) (hw : w < 2 ^ 31) : f_M_isSectionNow F m (nI t) (nI w) (mh m h σ) = some (bI (isN tb t w), mh m h σ) := by
  have hS := (OB_w hb).1.2.1.2
  unfold f_M_isSectionNow f_M_isSectionNow_34 f_M_isSectionNow_35 isN
  by_cases c1 : w = 0
  · rw [if_pos (by rw [c1]; decide), xz_0, decide_eq_false (by omega)] <;> rfl
  · rw [if_neg (show ¬ nI w ≤ 0 from nI_ge (a := 0) (by omega) (by omega)), e_o hm, bs, O_obj hm hb, xb_mk, e_o hm, bs, O_sec hm hF hb, xb_mk]
    by_cases c2 : oS (tb t) ≤ w
    · rw [if_pos (nI_le (by omega) (by omega)), xz_0, decide_eq_false (by omega)] <;> rfl
    · rw [if_neg (nI_ge (by omega) (by omega)), e_o hm, bs, O_obj hm hb, xb_mk, e_o hm, bs, O_kept hm hF hb (by omega), xb_mk, decide_eq_true (by omega), Bool.true_and]
      cases oK (tb t) w with
      | false => rw [if_pos (show bI false = 0 from rfl), xz_0] <;> rfl
      | true => rw [if_neg (show ¬ bI true = 0 by decide), xz_1] <;> rfl
theorem q_isInside_85 {x : List Nat × px_NR} {q : Nat × Nat} (hm : m ≤ h.length) (hF : 4096 < F) (hB : ∀ t, t < T → OB σ t (tO t) (tn t) (tb t)) (hd : RDr σ dr) (hr : RL σ xs) (hx : xs[i]? = some x) (hby : byP T tb dr x) (hq : x.2.2.2.2.1 = some q) : f_M_isInside_85 F m (nI i) (mh m h σ) = some (bI (isN tb q.1 (wNo dr q.1 (tb q.1) q.2)), mh m h σ) := by
  have hxl : xs.length ≤ 4096 := by have := hr.1.2.1; rw [List.length_map] at this; exact this
  have hi := (List.getElem?_eq_some_iff.mp hx).1
  have rr := hr.2 i x hx
  unfold byP at hby
  rw [hq] at hby
  obtain ⟨b1, b2, b3, b4, b5, b6⟩ := hby
  have hy := rr.2.2.2.1
  rw [hq] at hy
  have hy : gA σ 24 i = nI q.1 ∧ gA σ 25 i = nI q.2 := hy
  have hb := hB q.1 b1
  unfold f_M_isInside_85 f_M_isInside_121 f_M_isInside_122
  simp only [bs, Mr24 hm, Ma24 hm (show i < 4096 by omega), Mr25 hm, Ma25 hm (show i < 4096 by omega), hy.1, hy.2, e_o hm, O_wNo hm (show 24 < F by omega) hb hd b2.2, xb_mk, q_isSectionNow hm (show 24 < F by omega) hb (show wNo dr q.1 (tb q.1) q.2 < 2 ^ 31 by have := wNo_lt (k := q.2) (dr := dr) hb; omega)]
  cases isN tb q.1 (wNo dr q.1 (tb q.1) q.2) with
  | false => rw [if_pos (show bI false = 0 from rfl), xz_0] <;> rfl
  | true => rw [if_neg (show ¬ bI true = 0 by decide), xz_1] <;> rfl
theorem q_isInside (hm : m ≤ h.length) (hF : 4096 < F) (hW : WP T tb dr xs) (hR : RWd σ T tO tn tb dr xs) (ht : t < T) (hk : k < oM (tb t)) : f_M_isInside F m (nI t) (nI k) (mh m h σ) = some (bI (inY tb dr xs t k), mh m h σ) := by
  have hb := hR.1 t ht
  have hB16 := OB_yB (k := k) hb
  have hM := w2_M (OB_w hb)
  unfold f_M_isInside f_M_isInside_121 f_M_isInside_122 inY
  by_cases c0 : k = 0
  · rw [if_pos (by rw [c0]; rfl), if_pos c0]; rfl
  · rw [if_neg (show ¬ nI k = 0 from fun q => c0 ((nI_eq (b := 0) (by omega) (by decide)).mp q)), if_neg c0, e_o hm, bs, O_obj hm hb, xb_mk, e_o hm, bs, O_bind hm (by omega) hb hk, xb_mk]
    by_cases c1 : yB (tb t) k = 0
    · rw [if_pos (by rw [c1]; rfl), if_pos c1, e_o hm, bs, O_wNo hm (by omega) hb hR.2.1 hk, xb_mk, e_o hm, bs, q_isSectionNow hm (by omega) hb (by have := wNo_lt (k := k) (dr := dr) hb; omega), xb_mk]
      cases isN tb t (wNo dr t (tb t) k) with
      | false => rw [show bI false = nI 0 from rfl, xz_0] <;> rfl
      | true => rw [show bI true = nI 1 from rfl, xz_1] <;> rfl
    · obtain ⟨x, x1, x2, x3⟩ := plc_ix (hW.2.2.2.1 t k ht (by omega) hk c1)
      rw [if_neg (show ¬ nI (yB (tb t) k) = 0 from fun q => c1 ((nI_eq (b := 0) (by omega) (by decide)).mp q)), if_neg c1, e_o hm, bs, O_name hm hF hb hR.2.2 (by omega) hk c1, xb_mk, x3, x1]
      generalize plc (yT (tb t) k) (xs.map Prod.fst) = i at *
      have hxl : xs.length ≤ 4096 := by have := hR.2.2.1.2.1; rw [List.length_map] at this; exact this
      have hi := (List.getElem?_eq_some_iff.mp x1).1
      have h4 := (hW.2.1 i x x1).1
      have rr := hR.2.2.2 i x x1
      have hby := hW.2.2.1 i x x1
      have gv := q_isGiven (F := F) (σ := σ) hm hR.2.2 hW.2.1 x1 (fun q hq => by
        have := hby
        unfold byP at this
        rw [hq] at this
        have := this.1
        have := hW.1
        omega)
      show _ = some (bI (inN tb dr x.2), mh m h σ)
      rw [show tdA (some i) = nI i from rfl]
      unfold inN
      simp only [bs, Mr23 hm, Ma23 hm (show i < 4096 by omega), rr.1]
      by_cases c2 : x.2.1 = 2
      · rw [if_pos (by rw [c2]), if_pos c2]; rfl
      · rw [if_neg (fun q => c2 ((nI_eq (by omega) (by decide)).mp q)), if_neg c2]
        cases eq : x.2.2.2.2.1 with
        | none =>
          have hb0 := hby
          unfold byP at hb0
          rw [eq] at hb0
          have hb0 : x.2.1 = 0 ∨ x.2.1 = 3 ∨ x.2.1 = 4 := hb0
          rw [if_neg (fun q => by have := (nI_eq (by omega) (by decide)).mp q; omega)]
          by_cases c3 : x.2.1 = 3
          · rw [if_pos (by rw [c3]), e_o hm, bs, gv, xb_mk, eq, decide_eq_true c3, if_neg (by decide), xz_0] <;> rfl
          · rw [if_neg (fun q => c3 ((nI_eq (by omega) (by decide)).mp q)), xz_0] <;> rfl
        | some q =>
          have e85 := q_isInside_85 (F := F) hm hF hR.1 hR.2.1 hR.2.2 x1 hby eq
          by_cases c1 : x.2.1 = 1
          · rw [if_pos (by rw [c1]), e85]
            show _ = some (bI (decide (x.2.1 = 1 ∨ x.2.1 = 3) && isN tb q.1 (wNo dr q.1 (tb q.1) q.2)), _)
            rw [decide_eq_true (Or.inl c1), Bool.true_and]
          · rw [if_neg (fun q => c1 ((nI_eq (by omega) (by decide)).mp q))]
            by_cases c3 : x.2.1 = 3
            · rw [if_pos (by rw [c3]), e_o hm, bs, gv, xb_mk, eq, decide_eq_true c3, if_pos (by rfl), e85]
              show _ = some (bI (decide (x.2.1 = 1 ∨ x.2.1 = 3) && isN tb q.1 (wNo dr q.1 (tb q.1) q.2)), _)
              rw [decide_eq_true (Or.inr c3), Bool.true_and]
            · rw [if_neg (fun q => c3 ((nI_eq (by omega) (by decide)).mp q)), xz_0]
              show _ = some (bI (decide (x.2.1 = 1 ∨ x.2.1 = 3) && isN tb q.1 (wNo dr q.1 (tb q.1) q.2)), _)
              rw [decide_eq_false (fun q => q.elim c1 c3), Bool.false_and]
theorem y199 : ∀ y, y < 256 → (((nI y ^^^ nI 5) &&& nI 199 = 0) ↔ (y ^^^ 5) &&& 199 = 0) := by decide +kernel
theorem q_shortKind (hm : m ≤ h.length) (hF : 4096 < F) (hW : WP T tb dr xs) (hR : RWd σ T tO tn tb dr xs) (ht : t < T) (h1 : 1 ≤ i) (hi : i < oS (tb t)) (hs : isS (tb t) i = true) (hj : j < sN (tb t) i) : f_M_shortKind F m (nI t) (nI i) (nI j) (mh m h σ) = some (nI (skY tb dr xs t i j), mh m h σ) := by
  have hb := hR.1 t ht
  have hp := OB_sP hb h1 hi hs hj
  have he := eSit_0 hb.2.2.2.1 h1 hi hs
  have hok := sOK_0w (he.2.2.2.2.2 j hj)
  have hw := OB_w hb
  have hsH : sH (tb t) i j < 2 ^ 32 := le_lt (OB_lt hb) _ 4
  have hsD : sD (tb t) i j < 2 ^ 64 := le_lt (OB_lt hb) _ 8
  have hsL : sL (tb t) i j < 2 ^ 64 := le_lt (OB_lt hb) _ 8
  have hn := hb.2.2.1
  have e57 : (sH (tb t) i j = 41 ∨ sH (tb t) i j = 42) → f_M_shortKind_57 F m (nI t) (nI i) (nI (tO t)) (nI (tO t + sP (tb t) i j)) (lN (sH (tb t) i j)) (lN (sL (tb t) i j)) (mh m h σ) = some (nI (skY tb dr xs t i j), mh m h σ) := by
    intro c
    have hwd : wd (sH (tb t) i j) = 4 := by rcases c with c | c <;> rw [c] <;> rfl
    have h8 := hok.2.2
    rw [hwd] at h8
    obtain ⟨z1, z2⟩ : oT (tb t) (oI (tb t) i) ≠ 8 ∧ sL (tb t) i j + 4 ≤ oZ (tb t) (oI (tb t) i) := h8.elim (fun q => by omega) id
    have hK := he.2.1
    have hT0 : oT (tb t) (oI (tb t) i) ≠ 0 := by
      unfold oK at hK
      have := of_decide_eq_true hK
      omega
    have hPZ := hw.1.2.2.2.1 _ he.1 hT0 z1
    have hZ := hw.1.2.2.2.2 _ he.1 hK
    have hM := w2_M hw
    unfold f_M_shortKind_57 f_M_shortKind_103
    rw [e_o hm, bs, nI_add, O_sD hm (by omega) hb hp, xb_mk]
    unfold skY
    by_cases d1 : sD (tb t) i j = 18446744073709551612
    · rw [if_pos (show lN (sD (tb t) i j) = (-4 : Int64) by rw [d1]; decide)]
      by_cases d2 : 2 ≤ sL (tb t) i j
      · rw [if_neg (fun q => by have := (pk_lLT (a := sL (tb t) i j) (b := 2) (by omega) (by decide)).mp q; omega), e_o hm, bs, nI_add, O_sY hm (by omega) hb hp, xb_mk, lN_i, e_o hm, bs, q_isInside hm hF hW hR ht hok.2.1, xb_mk]
        cases d3 : inY tb dr xs t (sY (tb t) i j) with
        | false =>
          rw [if_pos (show bI false = 0 from rfl), if_neg (fun q => by exact nomatch q.2.2.2)]
        | true =>
          have hx1 : oP (tb t) (oI (tb t) i) + sL (tb t) i j - 2 < tn t := by omega
          have hx2 : oP (tb t) (oI (tb t) i) + sL (tb t) i j - 1 < tn t := by omega
          have l1 := OB_lt hb (oP (tb t) (oI (tb t) i) + sL (tb t) i j - 2)
          have l2 := OB_lt hb (oP (tb t) (oI (tb t) i) + sL (tb t) i j - 1)
          rw [if_neg (show ¬ bI true = 0 by decide), if_pos ⟨c, d1, d2, rfl⟩, e_o hm, bs, O_info hm (by omega) hb hi, xb_mk, lN_i, e_o hm, bs, O_beg hm (by omega) hb he.1, xb_mk, lN_i, lN_i, Mr6 hm, bs, nI_add, nI_add, pk_sub (by omega), show tO t + oP (tb t) (oI (tb t) i) + sL (tb t) i j - 2 = tO t + (oP (tb t) (oI (tb t) i) + sL (tb t) i j - 2) by omega, O_byte hm hb hx1, bs, bs, pk_sub (by omega), show tO t + oP (tb t) (oI (tb t) i) + sL (tb t) i j - 1 = tO t + (oP (tb t) (oI (tb t) i) + sL (tb t) i j - 1) by omega, O_byte hm hb hx2, bs, O_b255 hb hx1, O_b255 hb hx2]
          unfold f_M_shortKind_180 f_M_shortKind_197 f_M_shortKind_224
          generalize tb t (oP (tb t) (oI (tb t) i) + sL (tb t) i j - 2) = X at *
          generalize tb t (oP (tb t) (oI (tb t) i) + sL (tb t) i j - 1) = Y at *
          have q1 : nI X = nI 139 ↔ X = 139 := nI_eq (by omega) (by decide)
          have q2 : nI X = nI 255 ↔ X = 255 := nI_eq (by omega) (by decide)
          have q3 : nI Y = nI 21 ↔ Y = 21 := nI_eq (by omega) (by decide)
          have q4 : nI Y = nI 37 ↔ Y = 37 := nI_eq (by omega) (by decide)
          have q5 : lN (sH (tb t) i j) = (41 : Int64) ↔ sH (tb t) i j = 41 := lEQ (b := 41) (by omega) (by decide)
          have q6 := y199 Y l2
          generalize sH (tb t) i j = H at *
          unfold skB
          simp only [q1, q2, q3, q4, q5, q6]
          by_cases u1 : X = 139 <;> by_cases u2 : (Y ^^^ 5) &&& 199 = 0 <;> by_cases u3 : H = 41 <;> by_cases u4 : X = 255 <;> by_cases u5 : Y = 21 <;> by_cases u6 : Y = 37 <;> simp [u1, u2, u3, u4, u5, u6] <;> omega
      · rw [if_pos (show lN (sL (tb t) i j) < (2 : Int64) from (pk_lLT (a := sL (tb t) i j) (b := 2) (by omega) (by decide)).mpr (by omega)), if_neg (fun q => d2 q.2.2.1)]
    · rw [if_neg (show ¬ lN (sD (tb t) i j) = (-4 : Int64) from fun q => d1 ((lEQ (b := 18446744073709551612) hsD (by decide)).mp (q.trans (by decide)))), if_neg (fun q => d1 q.2.1)]
  unfold f_M_shortKind f_M_shortKind_103
  rw [e_o hm, bs, O_obj hm hb, xb_mk, e_o hm, bs, O_site hm (by omega) hb hi, xb_mk, e_o hm, bs, nI_add, O_sH hm (by omega) hb hp, xb_mk, e_o hm, bs, O_sL hm (by omega) hb hp, xb_mk]
  by_cases c1 : sH (tb t) i j = 41
  · rw [if_pos (show lN (sH (tb t) i j) = (41 : Int64) by rw [c1]; rfl), e57 (Or.inl c1)]
  · rw [if_neg (show ¬ lN (sH (tb t) i j) = (41 : Int64) from fun q => c1 ((lEQ (b := 41) (by omega) (by decide)).mp q))]
    by_cases c2 : sH (tb t) i j = 42
    · rw [if_pos (show lN (sH (tb t) i j) = (42 : Int64) by rw [c2]; rfl), e57 (Or.inr c2)]
    · rw [if_neg (show ¬ lN (sH (tb t) i j) = (42 : Int64) from fun q => c2 ((lEQ (b := 42) (by omega) (by decide)).mp q))]
      unfold skY
      rw [if_neg (fun q => q.1.elim c1 c2)]
theorem q_isShort (hm : m ≤ h.length) (hF : 4096 < F) (hW : WP T tb dr xs) (hR : RWd σ T tO tn tb dr xs) (ht : t < T) (h1 : 1 ≤ i) (hi : i < oS (tb t)) (hs : isS (tb t) i = true) (hj : j < sN (tb t) i) : f_M_isShort F m (nI t) (nI i) (nI j) (mh m h σ) = some (bI (decide (0 < skY tb dr xs t i j)), mh m h σ) := by
  have h3 := skY_3 (tb := tb) (dr := dr) (xs := xs) (t := t) (i := i) (j := j)
  unfold f_M_isShort f_M_isShort_15
  rw [e_o hm, bs, q_shortKind hm hF hW hR ht h1 hi hs hj, xb_mk]
  generalize skY tb dr xs t i j = s at *
  by_cases c : s = 0
  · rw [if_pos (by rw [c]; decide), xz_0, decide_eq_false (by omega)] <;> rfl
  · rw [if_neg (show ¬ nI s ≤ 0 from nI_ge (a := 0) (by omega) (by omega)), xz_1, decide_eq_true (by omega)] <;> rfl
end MSH
